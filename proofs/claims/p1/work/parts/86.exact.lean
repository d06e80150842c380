/-! THE REFERENCE'S GEOMETRY IN WHOLE NUMBERS: places as numbers from 0 to 2000, no overflow. By hand. -/
def tI (x y : Nat → Int) (p q r : Nat) : Int := (x q - x p) * (y r - y p) - (y q - y p) * (x r - x p)
def jI (px py qx qy rx ry : Int) : Int := (px * px + py * py) * (qx * ry - qy * rx) - (qx * qx + qy * qy) * (px * ry - py * rx) + (rx * rx + ry * ry) * (px * qy - py * qx)
def iI (x y : Nat → Int) (p q r s : Nat) : Int := jI (x p - x s) (y p - y s) (x q - x s) (y q - y s) (x r - x s) (y r - y s)
def ahI (x y : Nat → Int) (p q : Nat) : Bool := bif decide (x p = x q) then decide (y p < y q) else decide (x p < x q)
def fsI (x y : Nat → Int) (a b : Nat) : Nat := bif ahI x y b a then b else a
def tieI (x y : Nat → Int) (p q r s c : Nat) : Bool := bif decide (c = p) then decide (0 < tI x y p s r) else bif decide (c = q) then decide (tI x y q s r < 0) else decide (c = s)
def beI (x y : Nat → Int) (p q r s : Nat) : Bool := bif decide (iI x y p q r s = 0) then tieI x y p q r s (fsI x y (fsI x y (fsI x y p q) r) s) else decide (0 < iI x y p q r s)
/-- the row's points 0 .. N - 1, at places x, y -/
def crd (f : Nat → Int32) (N : Nat) (x y : Nat → Int) : Prop := ∀ k, k < 40 → isP f k = decide (k < N) ∧ (k < N → (0 ≤ x k ∧ x k ≤ 2000 ∧ 0 ≤ y k ∧ y k ≤ 2000) ∧ xF f k = Int32.ofInt (x k - 1000) ∧ yF f k = Int32.ofInt (y k - 1000))
theorem mul_b {a b A B : Int} (h1 : -A ≤ a) (h2 : a ≤ A) (h3 : -B ≤ b) (h4 : b ≤ B) : -(A * B) ≤ a * b ∧ a * b ≤ A * B := by
  have hA : a.natAbs ≤ A.natAbs := by omega
  have hB : b.natAbs ≤ B.natAbs := by omega
  have h := Nat.mul_le_mul hA hB
  rw [← Int.natAbs_mul, ← Int.natAbs_mul] at h
  have hAB : 0 ≤ A * B := Int.mul_nonneg (by omega) (by omega)
  omega
theorem i32_small {z : Int} (h1 : -2147483648 ≤ z) (h2 : z ≤ 2147483647) : (Int32.ofInt z).toInt = z := Int32.toInt_ofInt_of_le h1 (by omega)
theorem i64_small {z : Int} (h1 : -9223372036854775808 ≤ z) (h2 : z ≤ 9223372036854775807) : (Int64.ofInt z).toInt = z := Int64.toInt_ofInt_of_le h1 (by omega)
theorem lg_ofInt {z : Int} (h1 : -9223372036854775808 ≤ z) (h2 : z ≤ 9223372036854775807) : (lg_cmp (Int64.ofInt z) 0 = 0 ↔ z = 0) ∧ (lg_cmp (Int64.ofInt z) 0 ≤ 0 ↔ z ≤ 0) := by
  have ht := i64_small h1 h2
  have hgt : (Int64.ofInt z > 0) ↔ 0 < z := by
    show (0 : Int64) < Int64.ofInt z ↔ 0 < z
    rw [Int64.lt_iff_toInt_lt, ht]
    rfl
  have heq : (Int64.ofInt z = 0) ↔ z = 0 := by
    rw [← Int64.toInt_inj, ht]
    rfl
  unfold lg_cmp
  by_cases h : Int64.ofInt z > 0
  · rw [if_pos h]
    have := hgt.mp h
    constructor
    · constructor
      · intro e; exact absurd e (by decide)
      · intro e; omega
    · constructor
      · intro e; exact absurd e (by decide)
      · intro e; omega
  · rw [if_neg h]
    have h0 : ¬ 0 < z := fun e => h (hgt.mpr e)
    by_cases h2 : Int64.ofInt z = 0
    · rw [if_pos h2]
      have := heq.mp h2
      exact ⟨⟨fun _ => this, fun _ => rfl⟩, ⟨fun _ => by omega, fun _ => by decide⟩⟩
    · rw [if_neg h2]
      have hn : ¬ z = 0 := fun e => h2 (heq.mpr e)
      exact ⟨⟨fun e => absurd e (by decide), fun e => absurd e hn⟩, ⟨fun _ => by omega, fun _ => by decide⟩⟩
section
variable {f : Nat → Int32} {N : Nat} {x y : Nat → Int} (H : crd f N x y) (hN : N ≤ 40)
theorem crd_x {k : Nat} (H : crd f N x y) (hN : N ≤ 40) (hk : k < N) : xF f k = Int32.ofInt (x k - 1000) := ((H k (by omega)).2 hk).2.1
theorem crd_y {k : Nat} (H : crd f N x y) (hN : N ≤ 40) (hk : k < N) : yF f k = Int32.ofInt (y k - 1000) := ((H k (by omega)).2 hk).2.2
theorem crd_b {k : Nat} (H : crd f N x y) (hN : N ≤ 40) (hk : k < N) : 0 ≤ x k ∧ x k ≤ 2000 ∧ 0 ≤ y k ∧ y k ≤ 2000 := ((H k (by omega)).2 hk).1
theorem turn_e {p q r : Nat} (H : crd f N x y) (hN : N ≤ 40) (hp : p < N) (hq : q < N) (hr : r < N) : turnF f p q r = Int32.ofInt (tI x y p q r) := by
  unfold turnF sideF tI
  rw [crd_x H hN hp, crd_x H hN hq, crd_x H hN hr, crd_y H hN hp, crd_y H hN hq, crd_y H hN hr]
  rw [← Int32.ofInt_sub, ← Int32.ofInt_sub, ← Int32.ofInt_sub, ← Int32.ofInt_sub, ← Int32.ofInt_mul, ← Int32.ofInt_mul, ← Int32.ofInt_sub]
  congr 1
  rw [show x q - 1000 - (x p - 1000) = x q - x p by omega, show y r - 1000 - (y p - 1000) = y r - y p by omega, show y q - 1000 - (y p - 1000) = y q - y p by omega, show x r - 1000 - (x p - 1000) = x r - x p by omega]
theorem tI_b {p q r : Nat} (H : crd f N x y) (hN : N ≤ 40) (hp : p < N) (hq : q < N) (hr : r < N) : -8000000 ≤ tI x y p q r ∧ tI x y p q r ≤ 8000000 := by
  have hp := crd_b H hN hp
  have hq := crd_b H hN hq
  have hr := crd_b H hN hr
  unfold tI
  have h1 := mul_b (a := x q - x p) (b := y r - y p) (A := 2000) (B := 2000) (by omega) (by omega) (by omega) (by omega)
  have h2 := mul_b (a := y q - y p) (b := x r - x p) (A := 2000) (B := 2000) (by omega) (by omega) (by omega) (by omega)
  omega
theorem turn_le {p q r : Nat} (H : crd f N x y) (hN : N ≤ 40) (hp : p < N) (hq : q < N) (hr : r < N) : (turnF f p q r ≤ 0 ↔ tI x y p q r ≤ 0) ∧ (0 ≤ turnF f p q r ↔ 0 ≤ tI x y p q r) := by
  have hb := tI_b H hN hp hq hr
  rw [turn_e H hN hp hq hr, Int32.le_iff_toInt_le, Int32.le_iff_toInt_le, i32_small (by omega) (by omega)]
  exact ⟨Iff.rfl, Iff.rfl⟩
theorem jI_b {a b c d e g : Int} (ha : -2000 ≤ a ∧ a ≤ 2000) (hb : -2000 ≤ b ∧ b ≤ 2000) (hc : -2000 ≤ c ∧ c ≤ 2000) (hd : -2000 ≤ d ∧ d ≤ 2000) (he : -2000 ≤ e ∧ e ≤ 2000) (hg : -2000 ≤ g ∧ g ≤ 2000) : -192000000000000 ≤ jI a b c d e g ∧ jI a b c d e g ≤ 192000000000000 := by
  unfold jI
  have m (u v : Int) (hu : -2000 ≤ u ∧ u ≤ 2000) (hv : -2000 ≤ v ∧ v ≤ 2000) : -4000000 ≤ u * v ∧ u * v ≤ 4000000 := by
    have := mul_b (a := u) (b := v) (A := 2000) (B := 2000) hu.1 hu.2 hv.1 hv.2
    omega
  have M (u v : Int) (hu : -8000000 ≤ u ∧ u ≤ 8000000) (hv : -8000000 ≤ v ∧ v ≤ 8000000) : -64000000000000 ≤ u * v ∧ u * v ≤ 64000000000000 := by
    have := mul_b (a := u) (b := v) (A := 8000000) (B := 8000000) hu.1 hu.2 hv.1 hv.2
    omega
  have h1 := m a a ha ha
  have h2 := m b b hb hb
  have h3 := m c g hc hg
  have h4 := m d e hd he
  have h5 := m c c hc hc
  have h6 := m d d hd hd
  have h7 := m a g ha hg
  have h8 := m b e hb he
  have h9 := m e e he he
  have h10 := m g g hg hg
  have h11 := m a d ha hd
  have h12 := m b c hb hc
  have k1 := M (a * a + b * b) (c * g - d * e) (by omega) (by omega)
  have k2 := M (c * c + d * d) (a * g - b * e) (by omega) (by omega)
  have k3 := M (e * e + g * g) (a * d - b * c) (by omega) (by omega)
  omega
theorem d32 {a b : Int} (ha : 0 ≤ a ∧ a ≤ 2000) (hb : 0 ≤ b ∧ b ≤ 2000) : (Int32.ofInt (a - 1000) - Int32.ofInt (b - 1000)).toInt64 = Int64.ofInt (a - b) := by
  rw [← Int32.ofInt_sub, show a - 1000 - (b - 1000) = a - b by omega]
  exact Int32.toInt64_ofInt (by show (-2147483648 : Int) ≤ _; omega) (by show _ ≤ (2147483647 : Int); omega)
theorem ins_e {p q r s : Nat} (H : crd f N x y) (hN : N ≤ 40) (hp : p < N) (hq : q < N) (hr : r < N) (hs : s < N) : insByF f p q r s = Int64.ofInt (iI x y p q r s) := by
  have bp := crd_b H hN hp
  have bq := crd_b H hN hq
  have br := crd_b H hN hr
  have bs := crd_b H hN hs
  unfold insByF insF ins6 iI jI
  rw [crd_x H hN hp, crd_x H hN hq, crd_x H hN hr, crd_x H hN hs, crd_y H hN hp, crd_y H hN hq, crd_y H hN hr, crd_y H hN hs]
  rw [d32 (a := x p) (b := x s) (by omega) (by omega), d32 (a := y p) (b := y s) (by omega) (by omega), d32 (a := x q) (b := x s) (by omega) (by omega), d32 (a := y q) (b := y s) (by omega) (by omega), d32 (a := x r) (b := x s) (by omega) (by omega), d32 (a := y r) (b := y s) (by omega) (by omega)]
  simp only [Int64.ofInt_add, Int64.ofInt_sub, Int64.ofInt_mul]
theorem ahead_e {p q : Nat} (H : crd f N x y) (hN : N ≤ 40) (hp : p < N) (hq : q < N) : aheadF f p q = ahI x y p q := by
  have bp := crd_b H hN hp
  have bq := crd_b H hN hq
  unfold aheadF ahI
  rw [crd_x H hN hp, crd_x H hN hq, crd_y H hN hp, crd_y H hN hq]
  have e1 : (Int32.ofInt (x p - 1000) = Int32.ofInt (x q - 1000)) ↔ x p = x q := by
    rw [← Int32.toInt_inj, i32_small (by omega) (by omega), i32_small (by omega) (by omega)]
    omega
  have e2 : (Int32.ofInt (x q - 1000) ≤ Int32.ofInt (x p - 1000)) ↔ ¬ x p < x q := by
    rw [Int32.le_iff_toInt_le, i32_small (by omega) (by omega), i32_small (by omega) (by omega)]
    omega
  have e3 : (Int32.ofInt (y q - 1000) ≤ Int32.ofInt (y p - 1000)) ↔ ¬ y p < y q := by
    rw [Int32.le_iff_toInt_le, i32_small (by omega) (by omega), i32_small (by omega) (by omega)]
    omega
  have d1 : decide (Int32.ofInt (x p - 1000) = Int32.ofInt (x q - 1000)) = decide (x p = x q) := decide_eq_decide.mpr e1
  have d2 : decide (Int32.ofInt (x q - 1000) ≤ Int32.ofInt (x p - 1000)) = !(decide (x p < x q)) := by
    rw [← decide_not]
    exact decide_eq_decide.mpr e2
  have d3 : decide (Int32.ofInt (y q - 1000) ≤ Int32.ofInt (y p - 1000)) = !(decide (y p < y q)) := by
    rw [← decide_not]
    exact decide_eq_decide.mpr e3
  rw [d1, d2, d3, Bool.not_not, Bool.not_not]
theorem fst_e {a b : Nat} (H : crd f N x y) (hN : N ≤ 40) (ha : a < N) (hb : b < N) : fstF f a b = fsI x y a b := by
  unfold fstF fsI
  rw [ahead_e H hN hb ha]
theorem fsI_lt {a b : Nat} (ha : a < N) (hb : b < N) : fsI x y a b < N := by
  unfold fsI
  cases ahI x y b a <;> assumption
theorem bet_e {p q r s : Nat} (H : crd f N x y) (hN : N ≤ 40) (hp : p < N) (hq : q < N) (hr : r < N) (hs : s < N) : betF f p q r s = beI x y p q r s := by
  have bp := crd_b H hN hp
  have bq := crd_b H hN hq
  have br := crd_b H hN hr
  have bs := crd_b H hN hs
  have hj : -192000000000000 ≤ iI x y p q r s ∧ iI x y p q r s ≤ 192000000000000 := jI_b (by omega) (by omega) (by omega) (by omega) (by omega) (by omega)
  obtain ⟨l1, l2⟩ := lg_ofInt (z := iI x y p q r s) (by omega) (by omega)
  unfold betF beI tieF tieI
  rw [ins_e H hN hp hq hr hs, fst_e H hN hp hq, fst_e H hN (fsI_lt hp hq) hr, fst_e H hN (fsI_lt (fsI_lt hp hq) hr) hs]
  rw [decide_eq_decide.mpr l1, decide_eq_decide.mpr l2, decide_eq_decide.mpr (turn_le H hN hp hs hr).1, decide_eq_decide.mpr (turn_le H hN hq hs hr).2]
  rw [← decide_not, ← decide_not, ← decide_not]
  rw [decide_eq_decide.mpr (show ¬ tI x y p s r ≤ 0 ↔ 0 < tI x y p s r by omega), decide_eq_decide.mpr (show ¬ 0 ≤ tI x y q s r ↔ tI x y q s r < 0 by omega), decide_eq_decide.mpr (show ¬ iI x y p q r s ≤ 0 ↔ 0 < iI x y p q r s by omega)]
end
-- what is the same of three points turned, of two points changed
theorem tI_c {x y : Nat → Int} {p q r : Nat} : tI x y q r p = tI x y p q r := by
  unfold tI
  grind
theorem iI_c {x y : Nat → Int} {p q r s : Nat} : iI x y q r p s = iI x y p q r s := by
  unfold iI jI
  grind
theorem iI_s {x y : Nat → Int} {p q r s : Nat} : iI x y p q s r = - iI x y p q r s := by
  unfold iI jI
  grind
/-- a place between two points -/
theorem btw_t {ux uy sx sy vx vy : Int} (h0 : ux * sy - uy * sx = 0) (h1 : 0 < ux * sx + uy * sy) (h2 : ux * sx + uy * sy < ux * ux + uy * uy) (hT : 0 < vx * uy - vy * ux) : 0 < vx * sy - vy * sx := by
  have e : (ux * ux + uy * uy) * (vx * sy - vy * sx) = (ux * sx + uy * sy) * (vx * uy - vy * ux) + (ux * sy - uy * sx) * (vx * ux + vy * uy) := by grind
  rw [h0, Int.zero_mul, Int.add_zero] at e
  have := Int.mul_pos h1 hT
  rw [← e] at this
  exact Int.pos_of_mul_pos_right this (by omega)
theorem btw_i {ux uy sx sy vx vy : Int} (h0 : ux * sy - uy * sx = 0) (h1 : 0 < ux * sx + uy * sy) (h2 : ux * sx + uy * sy < ux * ux + uy * uy) (hT : 0 < vx * uy - vy * ux) : 0 < jI (0 - sx) (0 - sy) (vx - sx) (vy - sy) (ux - sx) (uy - sy) := by
  have e : (ux * ux + uy * uy) * jI (0 - sx) (0 - sy) (vx - sx) (vy - sy) (ux - sx) (uy - sy) = (ux * sx + uy * sy) * (vx * uy - vy * ux) * ((ux * ux + uy * uy) - (ux * sx + uy * sy)) + (ux * sy - uy * sx) * ((ux * ux + uy * uy) * (vx * ux + vy * uy - vx * vx - vy * vy) - (ux * sy - uy * sx) * (vx * uy - vy * ux)) := by
    unfold jI
    grind
  rw [h0, Int.zero_mul, Int.add_zero] at e
  have := Int.mul_pos (Int.mul_pos h1 hT) (show 0 < (ux * ux + uy * uy) - (ux * sx + uy * sy) by omega)
  rw [← e] at this
  exact Int.pos_of_mul_pos_right this (by omega)
