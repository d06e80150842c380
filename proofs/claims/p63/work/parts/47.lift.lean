/-! LIFTS: heights of points; who lies under the plane of three. By hand. -/
def St.U (S : St) (L : Nat → Int) (a b c p : Nat) : Int := L a * S.sd3 p b c + L b * S.sd3 p c a + L c * S.sd3 p a b - L p * S.sd3 a b c
theorem St.und_U (S : St) (a b c p : Nat) : S.und a b c (S.xs p) (S.ys p) (S.li p) = S.U S.li a b c p := by
  unfold St.und St.U St.sd3 St.sd
  grind
theorem St.U_rot (S : St) (L : Nat → Int) (a b c p : Nat) : S.U L b c a p = S.U L a b c p := by
  unfold St.U St.sd3 St.sd
  grind
theorem St.U_4 (S : St) (L : Nat → Int) (a b c d : Nat) : S.U L a b c d = S.sd3 d b c * L a + S.sd3 a d c * L b - S.sd3 b a d * L c - S.sd3 a b c * L d := by
  unfold St.U St.sd3 St.sd
  grind
theorem St.sd_4 (S : St) (a b c d : Nat) : S.sd3 a b c + S.sd3 b a d = S.sd3 a d c + S.sd3 d b c := by
  unfold St.sd3 St.sd
  grind
theorem St.sd_4x (S : St) (a b c d : Nat) : S.sd3 d b c * S.xs a + S.sd3 a d c * S.xs b = S.sd3 b a d * S.xs c + S.sd3 a b c * S.xs d := by
  unfold St.sd3 St.sd
  grind
theorem St.sd_4y (S : St) (a b c d : Nat) : S.sd3 d b c * S.ys a + S.sd3 a d c * S.ys b = S.sd3 b a d * S.ys c + S.sd3 a b c * S.ys d := by
  unfold St.sd3 St.sd
  grind
/-- the relation of five lifted points -/
theorem St.U_5 (S : St) (L : Nat → Int) (a b c d p : Nat) : S.U L d b c p + S.U L a d c p + S.U L a b c d = S.U L b a d p + S.U L a b c p := by
  unfold St.U St.sd3 St.sd
  grind
theorem St.U_5x (S : St) (L : Nat → Int) (a b c d p : Nat) : S.U L d b c p * S.xs a + S.U L a d c p * S.xs b + S.U L a b c d * S.xs p = S.U L b a d p * S.xs c + S.U L a b c p * S.xs d := by
  unfold St.U St.sd3 St.sd
  grind
theorem St.U_5y (S : St) (L : Nat → Int) (a b c d p : Nat) : S.U L d b c p * S.ys a + S.U L a d c p * S.ys b + S.U L a b c d * S.ys p = S.U L b a d p * S.ys c + S.U L a b c p * S.ys d := by
  unfold St.U St.sd3 St.sd
  grind
theorem St.U_5l (S : St) (L : Nat → Int) (a b c d p : Nat) : S.U L d b c p * L a + S.U L a d c p * L b + S.U L a b c d * L p = S.U L b a d p * L c + S.U L a b c p * L d := by
  unfold St.U St.sd3 St.sd
  grind
/-- no lifted point is a mean of other ones, nor above one -/
def St.scv (S : St) (L : Nat → Int) : Prop := ∀ q p1 p2 p3 p4 : Nat, (q < 40 ∧ p1 < 40 ∧ p2 < 40 ∧ p3 < 40 ∧ p4 < 40) → (S.has q ∧ S.has p1 ∧ S.has p2 ∧ S.has p3 ∧ S.has p4) → (p1 ≠ q ∧ p2 ≠ q ∧ p3 ≠ q ∧ p4 ≠ q) → ∀ w1 w2 w3 w4 W : Int, (0 ≤ w1 ∧ 0 ≤ w2 ∧ 0 ≤ w3 ∧ 0 ≤ w4) → 0 < W → w1 + w2 + w3 + w4 = W → w1 * S.xs p1 + w2 * S.xs p2 + w3 * S.xs p3 + w4 * S.xs p4 = W * S.xs q → w1 * S.ys p1 + w2 * S.ys p2 + w3 * S.ys p3 + w4 * S.ys p4 = W * S.ys q → W * L q < w1 * L p1 + w2 * L p2 + w3 * L p3 + w4 * L p4
/-- where d isn't above the plane of a b c, the four go round -/
theorem St.cvx {S : St} {L : Nat → Int} (hs : S.scv L) {a b c d : Nat} (hb : a < 40 ∧ b < 40 ∧ c < 40 ∧ d < 40) (hh : S.has a ∧ S.has b ∧ S.has c ∧ S.has d) (hn : a ≠ b ∧ b ≠ c ∧ c ≠ a ∧ a ≠ d ∧ b ≠ d) (p1 : 0 < S.sd3 a b c) (p2 : 0 < S.sd3 b a d) (hU : 0 ≤ S.U L a b c d) : 0 < S.sd3 a d c ∧ 0 < S.sd3 d b c := by
  have e := S.sd_4 a b c d
  have ex := S.sd_4x a b c d
  have ey := S.sd_4y a b c d
  rw [St.U_4] at hU
  constructor
  · rcases Int.lt_or_le 0 (S.sd3 a d c) with z | z
    · exact z
    · exfalso
      have h := hs a c d b b ⟨hb.1, hb.2.2.1, hb.2.2.2, hb.2.1, hb.2.1⟩ ⟨hh.1, hh.2.2.1, hh.2.2.2, hh.2.1, hh.2.1⟩ ⟨hn.2.2.1, fun z => hn.2.2.2.1 z.symm, fun z => hn.1 z.symm, fun z => hn.1 z.symm⟩ (S.sd3 b a d) (S.sd3 a b c) (-S.sd3 a d c) 0 (S.sd3 d b c) ⟨by omega, by omega, by omega, by omega⟩ (by omega) (by omega) (by rw [Int.neg_mul]; omega) (by rw [Int.neg_mul]; omega)
      rw [Int.neg_mul] at h
      omega
  · rcases Int.lt_or_le 0 (S.sd3 d b c) with z | z
    · exact z
    · exfalso
      have h := hs b c d a a ⟨hb.2.1, hb.2.2.1, hb.2.2.2, hb.1, hb.1⟩ ⟨hh.2.1, hh.2.2.1, hh.2.2.2, hh.1, hh.1⟩ ⟨fun z => hn.2.1 z.symm, fun z => hn.2.2.2.2 z.symm, hn.1, hn.1⟩ (S.sd3 b a d) (S.sd3 a b c) (-S.sd3 d b c) 0 (S.sd3 a d c) ⟨by omega, by omega, by omega, by omega⟩ (by omega) (by omega) (by rw [Int.neg_mul]; omega) (by rw [Int.neg_mul]; omega)
      rw [Int.neg_mul] at h
      omega
/-- squares, lowered a little: such a lift -/
theorem St.sq_pos {S : St} (hd : S.dist) {p q : Nat} (hp : p < 40) (hq : q < 40) (sp : S.has p) (sq : S.has q) (hne : p ≠ q) : 1 ≤ S.sq p q := by
  unfold St.sq
  have z1 : ∀ t : Int, 0 ≤ t * t := fun t => by rcases Int.le_total 0 t with g | g; exact Int.mul_nonneg g g; exact Int.mul_nonneg_of_nonpos_of_nonpos g g
  have y1 := z1 (S.xs p - S.xs q)
  have y2 := z1 (S.ys p - S.ys q)
  rcases Int.lt_or_le 0 ((S.xs p - S.xs q) * (S.xs p - S.xs q) + (S.ys p - S.ys q) * (S.ys p - S.ys q)) with z | z
  · omega
  · exfalso
    have z3 : S.xs p - S.xs q = 0 := by rcases Int.mul_eq_zero.mp (show (S.xs p - S.xs q) * (S.xs p - S.xs q) = 0 by omega) with g | g <;> exact g
    have z4 : S.ys p - S.ys q = 0 := by rcases Int.mul_eq_zero.mp (show (S.ys p - S.ys q) * (S.ys p - S.ys q) = 0 by omega) with g | g <;> exact g
    exact hne (hd p q hp hq sp sq (by omega) (by omega))
theorem St.scv_sq {S : St} (hd : S.dist) {K : Int} {h L : Nat → Int} (hL : ∀ p : Nat, p < 40 → L p = K * S.liR p - h p) (hK : 1 ≤ K) (hh : ∀ p : Nat, p < 40 → 0 ≤ h p ∧ h p < K) : S.scv L := by
  intro q p1 p2 p3 p4 hb hs hn w1 w2 w3 w4 W hw hW hsum hx hy
  have one : ∀ p : Nat, p < 40 → S.has p → p ≠ q → ∀ w : Int, 0 ≤ w → w ≤ w * (K * S.sq p q - h p) := by
    intro p hp sp hpq w h0
    have h1 := St.sq_pos hd hp hb.1 sp hs.1 hpq
    have h2 : K * 1 ≤ K * S.sq p q := Int.mul_le_mul_of_nonneg_left h1 (by omega)
    have h3 := hh p hp
    have h4 : w * 1 ≤ w * (K * S.sq p q - h p) := Int.mul_le_mul_of_nonneg_left (by omega) h0
    omega
  have o1 := one p1 hb.2.1 hs.2.1 hn.1 w1 hw.1
  have o2 := one p2 hb.2.2.1 hs.2.2.1 hn.2.1 w2 hw.2.1
  have o3 := one p3 hb.2.2.2.1 hs.2.2.2.1 hn.2.2.1 w3 hw.2.2.1
  have o4 := one p4 hb.2.2.2.2 hs.2.2.2.2 hn.2.2.2 w4 hw.2.2.2
  have hq0 := Int.mul_nonneg (show 0 ≤ W by omega) (hh q hb.1).1
  have key : w1 * L p1 + w2 * L p2 + w3 * L p3 + w4 * L p4 - W * L q = w1 * (K * S.sq p1 q - h p1) + w2 * (K * S.sq p2 q - h p2) + w3 * (K * S.sq p3 q - h p3) + w4 * (K * S.sq p4 q - h p4) + W * h q := by
    rw [hL p1 hb.2.1, hL p2 hb.2.2.1, hL p3 hb.2.2.2.1, hL p4 hb.2.2.2.2, hL q hb.1]
    unfold St.liR St.sq
    grind
  omega
/-! powers -/
def pw (M : Int) : Nat → Int
  | 0 => 1
  | n + 1 => M * pw M n
theorem pw_pos {M : Int} (hM : 1 ≤ M) : ∀ (n : Nat), 1 ≤ pw M n := by
  intro n
  induction n with
  | zero => exact Int.le_refl _
  | succ n ih =>
    show 1 ≤ M * pw M n
    have := Int.mul_le_mul_of_nonneg_right hM (show 0 ≤ pw M n by omega)
    omega
theorem pw_le {M : Int} (hM : 1 ≤ M) (n : Nat) : ∀ (k : Nat), pw M n ≤ pw M (n + k) := by
  intro k
  induction k with
  | zero => exact Int.le_refl _
  | succ k ih =>
    have h0 := pw_pos hM (n + k)
    have h1 : 1 * pw M (n + k) ≤ M * pw M (n + k) := Int.mul_le_mul_of_nonneg_right hM (by omega)
    show pw M n ≤ M * pw M (n + k)
    omega
theorem pow_ex (key : Nat → Nat) {M : Int} (hM : 1 ≤ M) (N : Nat) (hN : ∀ p : Nat, p < 40 → key p < N) : ∃ h : Nat → Int, (∀ p : Nat, 1 ≤ h p) ∧ ∀ p q : Nat, p < 40 → q < 40 → key p < key q → M * h q ≤ h p := by
  refine ⟨fun p => pw M (N - key p), fun p => pw_pos hM _, fun p q hp hq hk => ?_⟩
  have h1 := hN p hp
  have h2 := hN q hq
  show pw M (N - key q + 1) ≤ pw M (N - key p)
  have := pw_le hM (N - key q + 1) (key q - key p - 1)
  rw [show N - key q + 1 + (key q - key p - 1) = N - key p by omega] at this
  exact this
def St.ky (S : St) (p : Nat) : Int := (S.xs p + 1000) * 2001 + (S.ys p + 1000)
theorem St.ahead_ky {S : St} (hB : S.inB) {a b : Nat} (ha : a < 40) (hb : b < 40) : (S.ahead a b = a ∧ S.ky a ≤ S.ky b) ∨ (S.ahead a b = b ∧ S.ky b ≤ S.ky a) := by
  have h1 := hB a ha
  have h2 := hB b hb
  unfold St.ahead St.ky
  split
  · split
    · exact Or.inl ⟨rfl, by omega⟩
    · exact Or.inr ⟨rfl, by omega⟩
  · split
    · exact Or.inl ⟨rfl, by omega⟩
    · exact Or.inr ⟨rfl, by omega⟩
theorem St.ky_ne {S : St} (hB : S.inB) (hd : S.dist) {a b : Nat} (ha : a < 40) (hb : b < 40) (sa : S.has a) (sb : S.has b) (hne : a ≠ b) : S.ky a ≠ S.ky b := by
  have h1 := hB a ha
  have h2 := hB b hb
  unfold St.ky
  intro z
  exact hne (hd a b ha hb sa sb (by omega) (by omega))
/-- of four points the one ahead of all others -/
theorem St.first4 {S : St} (hB : S.inB) (hd : S.dist) {a b c d : Nat} (hb : a < 40 ∧ b < 40 ∧ c < 40 ∧ d < 40) (hh : S.has a ∧ S.has b ∧ S.has c ∧ S.has d) (hn : a ≠ b ∧ b ≠ c ∧ c ≠ a ∧ a ≠ d ∧ b ≠ d ∧ c ≠ d) :
    (S.ahead (S.ahead a b) (S.ahead c d) = a ∧ S.ky a < S.ky b ∧ S.ky a < S.ky c ∧ S.ky a < S.ky d) ∨ (S.ahead (S.ahead a b) (S.ahead c d) = b ∧ S.ky b < S.ky a ∧ S.ky b < S.ky c ∧ S.ky b < S.ky d) ∨ (S.ahead (S.ahead a b) (S.ahead c d) = c ∧ S.ky c < S.ky a ∧ S.ky c < S.ky b ∧ S.ky c < S.ky d) ∨ (S.ahead (S.ahead a b) (S.ahead c d) = d ∧ S.ky d < S.ky a ∧ S.ky d < S.ky b ∧ S.ky d < S.ky c) := by
  obtain ⟨ba, bb, bc, bd⟩ := hb
  obtain ⟨sa, sb, sc, sd⟩ := hh
  have k1 := St.ky_ne hB hd ba bb sa sb hn.1
  have k2 := St.ky_ne hB hd bb bc sb sc hn.2.1
  have k3 := St.ky_ne hB hd bc ba sc sa hn.2.2.1
  have k4 := St.ky_ne hB hd ba bd sa sd hn.2.2.2.1
  have k5 := St.ky_ne hB hd bb bd sb sd hn.2.2.2.2.1
  have k6 := St.ky_ne hB hd bc bd sc sd hn.2.2.2.2.2
  rcases St.ahead_ky hB ba bb with ⟨e1, l1⟩ | ⟨e1, l1⟩ <;> rcases St.ahead_ky hB bc bd with ⟨e2, l2⟩ | ⟨e2, l2⟩ <;> rw [e1, e2]
  · rcases St.ahead_ky hB ba bc with ⟨e3, l3⟩ | ⟨e3, l3⟩ <;> rw [e3]
    · exact Or.inl ⟨rfl, by omega, by omega, by omega⟩
    · exact Or.inr (Or.inr (Or.inl ⟨rfl, by omega, by omega, by omega⟩))
  · rcases St.ahead_ky hB ba bd with ⟨e3, l3⟩ | ⟨e3, l3⟩ <;> rw [e3]
    · exact Or.inl ⟨rfl, by omega, by omega, by omega⟩
    · exact Or.inr (Or.inr (Or.inr ⟨rfl, by omega, by omega, by omega⟩))
  · rcases St.ahead_ky hB bb bc with ⟨e3, l3⟩ | ⟨e3, l3⟩ <;> rw [e3]
    · exact Or.inr (Or.inl ⟨rfl, by omega, by omega, by omega⟩)
    · exact Or.inr (Or.inr (Or.inl ⟨rfl, by omega, by omega, by omega⟩))
  · rcases St.ahead_ky hB bb bd with ⟨e3, l3⟩ | ⟨e3, l3⟩ <;> rw [e3]
    · exact Or.inr (Or.inl ⟨rfl, by omega, by omega, by omega⟩)
    · exact Or.inr (Or.inr (Or.inr ⟨rfl, by omega, by omega, by omega⟩))
/-- allowed by the circle: the edge a b of a b c and b a d -/
def St.alw (S : St) (a b c d : Nat) : Prop := S.U S.liR a b c d < 0 ∨ (S.U S.liR a b c d = 0 ∧ (S.ahead (S.ahead a b) (S.ahead c d) = a ∨ S.ahead (S.ahead a b) (S.ahead c d) = b))
theorem mul_bd {x y A B : Int} (h1 : -A ≤ x) (h2 : x ≤ A) (h3 : -B ≤ y) (h4 : y ≤ B) (hA : 0 ≤ A) (hB : 0 ≤ B) : -(A * B) ≤ x * y ∧ x * y ≤ A * B := by
  have a1 := Int.mul_nonneg (show 0 ≤ A - x by omega) (show 0 ≤ B - y by omega)
  have a2 := Int.mul_nonneg (show 0 ≤ A + x by omega) (show 0 ≤ B + y by omega)
  have a3 := Int.mul_nonneg (show 0 ≤ A - x by omega) (show 0 ≤ B + y by omega)
  have a4 := Int.mul_nonneg (show 0 ≤ A + x by omega) (show 0 ≤ B - y by omega)
  rw [Int.sub_mul, Int.mul_sub, Int.mul_sub] at a1
  rw [Int.add_mul, Int.mul_add, Int.mul_add] at a2
  rw [Int.sub_mul, Int.mul_add, Int.mul_add] at a3
  rw [Int.add_mul, Int.mul_sub, Int.mul_sub] at a4
  omega
theorem St.sd3_bd {S : St} (hB : S.inB) {a b c : Nat} (ha : a < 40) (hb : b < 40) (hc : c < 40) : -8000000 ≤ S.sd3 a b c ∧ S.sd3 a b c ≤ 8000000 := by
  have h1 := hB a ha
  have h2 := hB b hb
  have h3 := hB c hc
  have m1 := mul_bd (x := S.xs b - S.xs a) (y := S.ys c - S.ys a) (A := 2000) (B := 2000) (by omega) (by omega) (by omega) (by omega) (by decide) (by decide)
  have m2 := mul_bd (x := S.ys b - S.ys a) (y := S.xs c - S.xs a) (A := 2000) (B := 2000) (by omega) (by omega) (by omega) (by omega) (by decide) (by decide)
  unfold St.sd3 St.sd
  omega
theorem sumR_mem {f : Nat → Int} {n k : Nat} (hf : ∀ k : Nat, k < n → 0 ≤ f k) (hk : k < n) : f k ≤ sumR n f := by
  have h := sumR_part hf [k] (by simp) (by simpa using hk)
  simpa using h
theorem St.U_lin (S : St) (K : Int) (l h : Nat → Int) (a b c d : Nat) : S.U (fun p => K * l p - h p) a b c d = K * S.U l a b c d - S.U h a b c d := by
  unfold St.U
  grind
/-- a lift by which each edge is allowed or to be flipped, and that bends everywhere -/
theorem St.lift_ex {S : St} (hB : S.inB) (hd : S.dist) : ∃ L : Nat → Int, S.scv L ∧ ∀ a b c d : Nat, (a < 40 ∧ b < 40 ∧ c < 40 ∧ d < 40) → (S.has a ∧ S.has b ∧ S.has c ∧ S.has d) → (a ≠ b ∧ b ≠ c ∧ c ≠ a ∧ a ≠ d ∧ b ≠ d ∧ c ≠ d) → 0 < S.sd3 a b c → 0 < S.sd3 b a d → (S.alw a b c d → S.U L a b c d < 0) ∧ (¬ S.alw a b c d → 0 < S.U L a b c d) := by
  obtain ⟨h, h0, h1⟩ := pow_ex (fun p => (S.ky p).toNat) (M := 32000000) (by decide) 5000000 (fun p hp => by
    have := hB p hp
    unfold St.ky
    omega)
  have hky : ∀ p : Nat, p < 40 → 0 ≤ S.ky p := fun p hp => by
    have := hB p hp
    unfold St.ky
    omega
  have hH : ∀ p : Nat, p < 40 → h p ≤ sumR 40 h := fun p hp => sumR_mem (fun k _ => by have := h0 k; omega) hp
  have hH1 : 1 ≤ sumR 40 h := by have := hH 0 (by decide); have := h0 0; omega
  generalize sumR 40 h = H at hH hH1
  have hscv0 : S.scv S.liR := St.scv_sq hd (K := 1) (h := fun _ => 0) (fun p _ => by show S.liR p = 1 * S.liR p - 0; omega) (by decide) (fun p _ => ⟨by decide, by decide⟩)
  refine ⟨fun p => (32000001 * H + 1) * S.liR p - h p, St.scv_sq hd (K := 32000001 * H + 1) (h := h) (fun p _ => rfl) (by omega) (fun p hp => ⟨by have := h0 p; omega, by have := hH p hp; omega⟩), ?_⟩
  intro a b c d hb hh hn p1 p2
  obtain ⟨ba, bb, bc, bd⟩ := id hb
  rw [St.U_lin]
  have bnd : ∀ x : Int, -8000000 ≤ x → x ≤ 8000000 → ∀ p : Nat, p < 40 → -(8000000 * h p) ≤ x * h p ∧ x * h p ≤ 8000000 * h p := fun x x1 x2 p _ => by
    have := h0 p
    exact mul_bd x1 x2 (by omega) (Int.le_refl _) (by decide) (by omega)
  have B2 := St.sd3_bd hB (a := d) (b := b) (c := c) bd bb bc
  have B1 := St.sd3_bd hB (a := a) (b := d) (c := c) ba bd bc
  have A2 := St.sd3_bd hB (a := b) (b := a) (c := d) bb ba bd
  have A1 := St.sd3_bd hB (a := a) (b := b) (c := c) ba bb bc
  have eh := S.U_4 h a b c d
  have t1 := bnd _ B2.1 B2.2 a ba
  have t2 := bnd _ B1.1 B1.2 b bb
  have t3 := bnd _ A2.1 A2.2 c bc
  have t4 := bnd _ A1.1 A1.2 d bd
  have ka := hH a ba
  have kb := hH b bb
  have kc := hH c bc
  have kd := hH d bd
  have hdom : ∀ p q : Nat, p < 40 → q < 40 → S.ky p < S.ky q → 32000000 * h q ≤ h p := fun p q hp hq hk => h1 p q hp hq (by
    have := hky p hp
    have := hky q hq
    show (S.ky p).toNat < (S.ky q).toNat
    omega)
  have g0a := h0 a
  have g0b := h0 b
  have g0c := h0 c
  have g0d := h0 d
  rcases Int.lt_trichotomy (S.U S.liR a b c d) 0 with g | g | g
  · have m1 : (32000001 * H + 1) * S.U S.liR a b c d ≤ (32000001 * H + 1) * (-1) := Int.mul_le_mul_of_nonneg_left (by omega) (by omega)
    exact ⟨fun _ => by omega, fun z => absurd (Or.inl g) z⟩
  · have q := St.cvx hscv0 hb hh ⟨hn.1, hn.2.1, hn.2.2.1, hn.2.2.2.1, hn.2.2.2.2.1⟩ p1 p2 (by omega)
    have pos : ∀ x : Int, 0 < x → ∀ p : Nat, h p ≤ x * h p := fun x hx p => by
      have := h0 p
      have := Int.mul_le_mul_of_nonneg_right (show (1 : Int) ≤ x by omega) (show 0 ≤ h p by omega)
      omega
    have s1 := pos _ q.2 a
    have s2 := pos _ q.1 b
    have s3 := pos _ p2 c
    have s4 := pos _ p1 d
    rw [g, Int.mul_zero]
    rcases St.first4 hB hd hb hh hn with ⟨f, l1, l2, l3⟩ | ⟨f, l1, l2, l3⟩ | ⟨f, l1, l2, l3⟩ | ⟨f, l1, l2, l3⟩
    · have d1 := hdom a c ba bc l2
      have d2 := hdom a d ba bd l3
      exact ⟨fun _ => by omega, fun z => absurd (Or.inr ⟨g, Or.inl f⟩) z⟩
    · have d1 := hdom b c bb bc l2
      have d2 := hdom b d bb bd l3
      exact ⟨fun _ => by omega, fun z => absurd (Or.inr ⟨g, Or.inr f⟩) z⟩
    · have d1 := hdom c a bc ba l1
      have d2 := hdom c b bc bb l2
      refine ⟨fun z => ?_, fun _ => by omega⟩
      rcases z with z | ⟨-, z | z⟩
      · omega
      · exact absurd (f.symm.trans z) hn.2.2.1
      · exact absurd (f.symm.trans z).symm hn.2.1
    · have d1 := hdom d a bd ba l1
      have d2 := hdom d b bd bb l2
      refine ⟨fun z => ?_, fun _ => by omega⟩
      rcases z with z | ⟨-, z | z⟩
      · omega
      · exact absurd (f.symm.trans z).symm hn.2.2.2.1
      · exact absurd (f.symm.trans z).symm hn.2.2.2.2.1
  · have m1 : (32000001 * H + 1) * 1 ≤ (32000001 * H + 1) * S.U S.liR a b c d := Int.mul_le_mul_of_nonneg_left (by omega) (by omega)
    refine ⟨fun z => ?_, fun _ => by omega⟩
    rcases z with z | ⟨z, -⟩ <;> omega
