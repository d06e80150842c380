/-! A POINT PUT IN: how its three sides are joined. Rows in part laid by wip/p63/mk53.py. -/
theorem St.bary3 (S : St) (a b c p u v : Nat) : S.sd3 a b c * S.sd3 u v p = S.sd3 b c p * S.sd3 u v a + S.sd3 c a p * S.sd3 u v b + S.sd3 a b p * S.sd3 u v c := by
  unfold St.sd3 St.sd
  grind
theorem St.baryx (S : St) (a b c p : Nat) : S.sd3 a b c * S.xs p = S.sd3 b c p * S.xs a + S.sd3 c a p * S.xs b + S.sd3 a b p * S.xs c := by
  unfold St.sd3 St.sd
  grind
theorem St.baryy (S : St) (a b c p : Nat) : S.sd3 a b c * S.ys p = S.sd3 b c p * S.ys a + S.sd3 c a p * S.ys b + S.sd3 a b p * S.ys c := by
  unfold St.sd3 St.sd
  grind
theorem St.bary0 (S : St) (a b c p : Nat) : S.sd3 a b c = S.sd3 b c p + S.sd3 c a p + S.sd3 a b p := by
  unfold St.sd3 St.sd
  grind
/-- a point on a side lies between its ends -/
theorem St.btw_of {S : St} {a b c p : Nat} (hA : 0 < S.sd3 a b c) (h0 : S.sd3 a b p = 0) (h1 : 0 < S.sd3 b c p) (h2 : 0 < S.sd3 c a p) : S.btw a b p := by
  refine ⟨h0, fun d hd => ⟨?_, ?_⟩⟩
  · have e := S.bary3 a b c p a d
    have e1 : S.sd3 a d b = S.sd3 b a d := St.sd3_rot S b a d
    rw [St.sd3_self3, h0, Int.mul_zero, Int.zero_mul, e1] at e
    have m := Int.mul_pos h2 hd
    rcases Int.lt_or_le 0 (S.sd3 a d p) with z | z
    · exact z
    · have := Int.mul_nonpos_of_nonneg_of_nonpos (show 0 ≤ S.sd3 a b c by omega) z
      omega
  · have e := S.bary3 a b c p d b
    have e1 : S.sd3 d b a = S.sd3 b a d := (St.sd3_rot S d b a).symm
    rw [St.sd3_self2, h0, Int.mul_zero, Int.zero_mul, e1] at e
    have m := Int.mul_pos h1 hd
    rcases Int.lt_or_le 0 (S.sd3 d b p) with z | z
    · exact z
    · have := Int.mul_nonpos_of_nonneg_of_nonpos (show 0 ≤ S.sd3 a b c by omega) z
      omega
/-- a point on two sides is the corner -/
theorem St.not_two {S : St} (hd : S.dist) {a b c p : Nat} (hb : b < 40) (hp : p < 40) (sb : S.has b) (sp : S.has p) (hne : b ≠ p) (hA : 0 < S.sd3 a b c) (h1 : S.sd3 a b p = 0) (h2 : S.sd3 b c p = 0) : False := by
  have e0 := S.bary0 a b c p
  have ex := S.baryx a b c p
  have ey := S.baryy a b c p
  rw [h1, h2, Int.zero_mul, Int.zero_mul, show S.sd3 c a p = S.sd3 a b c by omega] at ex ey
  have x1 : S.xs b = S.xs p := Int.eq_of_mul_eq_mul_left (show S.sd3 a b c ≠ 0 by omega) (by omega)
  have y1 : S.ys b = S.ys p := Int.eq_of_mul_eq_mul_left (show S.sd3 a b c ≠ 0 by omega) (by omega)
  exact hne (hd b p hb hp sb sp x1 y1)
theorem St.sd3_eq {S T : St} (h1 : T.xs = S.xs) (h2 : T.ys = S.ys) : T.sd3 = S.sd3 := by
  unfold St.sd3 St.sd
  rw [h1, h2]
theorem St.btw_eq {S T : St} (h1 : T.xs = S.xs) (h2 : T.ys = S.ys) {a b p : Nat} (h : S.btw a b p) : T.btw a b p := by
  unfold St.btw at *
  rw [St.sd3_eq h1 h2]
  exact h
/-- the three results: within, on an edge of two triangles, on the border -/
def St.RN (T0 T : St) (a b c p : Nat) : Prop := T0.Stp T (fun _ => 0) 6 (fun x y => (x = p ∧ (y = a ∨ y = b ∨ y = c)) ∨ (y = p ∧ (x = a ∨ x = b ∨ x = c))) no2 no2 no2
def St.RB (T0 T : St) (a b c d p : Nat) : Prop := (T0.sd3 a b p = 0 ∧ 0 < T0.sd3 b c p ∧ 0 < T0.sd3 c a p ∧ d < 40 ∧ T0.E b a ∧ T0.has d ∧ d ≠ a ∧ d ≠ b ∧ d ≠ c ∧ d ≠ p) ∧ T0.Stp T (fun _ => 0) 6 (fun x y => (x = p ∧ (y = a ∨ y = b ∨ y = c ∨ y = d)) ∨ (y = p ∧ (x = a ∨ x = b ∨ x = c ∨ x = d))) (eU a b) (fun x y => T0.bound a b ∧ (eU a p x y ∨ eU b p x y)) (fun x y => T0.bound a b ∧ eU a b x y)
def St.RC (T0 T : St) (a b c p : Nat) : Prop := (T0.sd3 a b p = 0 ∧ 0 < T0.sd3 b c p ∧ 0 < T0.sd3 c a p ∧ ¬ T0.E b a) ∧ T0.Stp T (fun g => -(g a b + g b p + g p a)) 3 (fun x y => (x = a ∧ y = p) ∨ (x = p ∧ y = b) ∨ eU c p x y) (fun x y => x = a ∧ y = b) (fun x y => T0.bound a b ∧ (eU a p x y ∨ eU b p x y)) (fun x y => T0.bound a b ∧ eU a b x y)
/-- what a step leaves: all but edges -/
theorem St.Stp.had {T T' : St} {F : (Nat → Nat → Int) → Int} {n : Int} {Ad Rm BA BR : Nat → Nat → Prop} (h : T.Stp T' F n Ad Rm BA BR) (q : Nat) : T'.has q ↔ T.has q := by
  unfold St.has
  rw [h.2.2.2.1]
theorem St.Stp.E {T T' : St} {F : (Nat → Nat → Int) → Int} {n : Int} {Ad Rm BA BR : Nat → Nat → Prop} (h : T.Stp T' F n Ad Rm BA BR) {x y : Nat} (hx : x < 40) (hy : y < 40) : T'.E x y ↔ (T.E x y ∧ ¬ Rm x y) ∨ Ad x y := h.2.2.2.2.2.2.2.2.1 x y hx hy
theorem St.Stp.bd {T T' : St} {F : (Nat → Nat → Int) → Int} {n : Int} {Ad Rm BA BR : Nat → Nat → Prop} (h : T.Stp T' F n Ad Rm BA BR) {x y : Nat} (hx : x < 40) (hy : y < 40) : T'.bound x y ↔ (T.bound x y ∧ ¬ BR x y) ∨ BA x y := h.2.2.2.2.2.2.2.2.2 x y hx hy
theorem St.Stp.sd {T T' : St} {F : (Nat → Nat → Int) → Int} {n : Int} {Ad Rm BA BR : Nat → Nat → Prop} (h : T.Stp T' F n Ad Rm BA BR) : T'.sd3 = T.sd3 := St.sd3_eq h.2.1 h.2.2.1

theorem tN {E : Nat → Nat → Prop} {a b c d p x y : Nat} (n1 : a ≠ b) (n2 : b ≠ c) (n3 : c ≠ a) (o1 : a ≠ p) (o2 : b ≠ p) (o3 : c ≠ p) (hz : e3 a b c x y → E x y) : (((E x y ∧ ¬ (((e3 a b c x y ∨ no2 x y) ∨ no2 x y) ∨ no2 x y)) ∨ ((((((no2 x y ∧ ¬ no2 x y) ∨ e3 a b p x y) ∧ ¬ no2 x y) ∨ e3 b c p x y) ∧ ¬ no2 x y) ∨ e3 c a p x y)) ↔ ((E x y ∧ ¬ no2 x y) ∨ ((x = p ∧ (y = a ∨ y = b ∨ y = c)) ∨ (y = p ∧ (x = a ∨ x = b ∨ x = c))))) := by
  simp only [e3, eU, no2, or_false, false_or, false_and, not_false_eq_true, and_true] at *
  grind
theorem t1C {E : Nat → Nat → Prop} {a b c d p x y : Nat} (n1 : a ≠ b) (n2 : b ≠ c) (n3 : c ≠ a) (o1 : a ≠ p) (o2 : b ≠ p) (o3 : c ≠ p) (hz : e3 a b c x y → E x y) (hw : E x y → ¬ (x = b ∧ y = a)) : (((E x y ∧ ¬ (((e3 a b c x y ∨ no2 x y) ∨ no2 x y) ∨ no2 x y)) ∨ ((((((no2 x y ∧ ¬ no2 x y) ∨ no2 x y) ∧ ¬ no2 x y) ∨ e3 b c p x y) ∧ ¬ no2 x y) ∨ e3 c a p x y)) ↔ ((E x y ∧ ¬ (x = a ∧ y = b)) ∨ ((x = a ∧ y = p) ∨ (x = p ∧ y = b) ∨ eU c p x y))) := by
  simp only [e3, eU, no2, or_false, false_or, false_and, not_false_eq_true, and_true] at *
  grind
theorem t1B {E : Nat → Nat → Prop} {a b c d p x y : Nat} (n1 : a ≠ b) (n2 : b ≠ c) (n3 : c ≠ a) (o1 : a ≠ p) (o2 : b ≠ p) (o3 : c ≠ p) (hz : e3 a b c x y → E x y) (hw : e3 b a d x y → E x y) (d1 : d ≠ a) (d2 : d ≠ b) (d3 : d ≠ c) (d4 : d ≠ p) : (((E x y ∧ ¬ (((e3 a b c x y ∨ e3 b a d x y) ∨ no2 x y) ∨ no2 x y)) ∨ ((((((no2 x y ∧ ¬ e3 b a d x y) ∨ (e3 a d p x y ∨ e3 d b p x y)) ∧ ¬ no2 x y) ∨ e3 b c p x y) ∧ ¬ no2 x y) ∨ e3 c a p x y)) ↔ ((E x y ∧ ¬ eU a b x y) ∨ ((x = p ∧ (y = a ∨ y = b ∨ y = c ∨ y = d)) ∨ (y = p ∧ (x = a ∨ x = b ∨ x = c ∨ x = d))))) := by
  simp only [e3, eU, no2, or_false, false_or, false_and, not_false_eq_true, and_true] at *
  grind
theorem t2C {E : Nat → Nat → Prop} {a b c d p x y : Nat} (n1 : a ≠ b) (n2 : b ≠ c) (n3 : c ≠ a) (o1 : a ≠ p) (o2 : b ≠ p) (o3 : c ≠ p) (hz : e3 a b c x y → E x y) (hw : E x y → ¬ (x = c ∧ y = b)) : (((E x y ∧ ¬ (((e3 a b c x y ∨ no2 x y) ∨ no2 x y) ∨ no2 x y)) ∨ ((((((no2 x y ∧ ¬ no2 x y) ∨ e3 a b p x y) ∧ ¬ no2 x y) ∨ no2 x y) ∧ ¬ no2 x y) ∨ e3 c a p x y)) ↔ ((E x y ∧ ¬ (x = b ∧ y = c)) ∨ ((x = b ∧ y = p) ∨ (x = p ∧ y = c) ∨ eU a p x y))) := by
  simp only [e3, eU, no2, or_false, false_or, false_and, not_false_eq_true, and_true] at *
  grind
theorem t2B {E : Nat → Nat → Prop} {a b c d p x y : Nat} (n1 : a ≠ b) (n2 : b ≠ c) (n3 : c ≠ a) (o1 : a ≠ p) (o2 : b ≠ p) (o3 : c ≠ p) (hz : e3 a b c x y → E x y) (hw : e3 c b d x y → E x y) (d1 : d ≠ a) (d2 : d ≠ b) (d3 : d ≠ c) (d4 : d ≠ p) : (((E x y ∧ ¬ (((e3 a b c x y ∨ no2 x y) ∨ e3 c b d x y) ∨ no2 x y)) ∨ ((((((no2 x y ∧ ¬ no2 x y) ∨ e3 a b p x y) ∧ ¬ e3 c b d x y) ∨ (e3 b d p x y ∨ e3 d c p x y)) ∧ ¬ no2 x y) ∨ e3 c a p x y)) ↔ ((E x y ∧ ¬ eU b c x y) ∨ ((x = p ∧ (y = b ∨ y = c ∨ y = a ∨ y = d)) ∨ (y = p ∧ (x = b ∨ x = c ∨ x = a ∨ x = d))))) := by
  simp only [e3, eU, no2, or_false, false_or, false_and, not_false_eq_true, and_true] at *
  grind
theorem t3C {E : Nat → Nat → Prop} {a b c d p x y : Nat} (n1 : a ≠ b) (n2 : b ≠ c) (n3 : c ≠ a) (o1 : a ≠ p) (o2 : b ≠ p) (o3 : c ≠ p) (hz : e3 a b c x y → E x y) (hw : E x y → ¬ (x = a ∧ y = c)) : (((E x y ∧ ¬ (((e3 a b c x y ∨ no2 x y) ∨ no2 x y) ∨ no2 x y)) ∨ ((((((no2 x y ∧ ¬ no2 x y) ∨ e3 a b p x y) ∧ ¬ no2 x y) ∨ e3 b c p x y) ∧ ¬ no2 x y) ∨ no2 x y)) ↔ ((E x y ∧ ¬ (x = c ∧ y = a)) ∨ ((x = c ∧ y = p) ∨ (x = p ∧ y = a) ∨ eU b p x y))) := by
  simp only [e3, eU, no2, or_false, false_or, false_and, not_false_eq_true, and_true] at *
  grind
theorem t3B {E : Nat → Nat → Prop} {a b c d p x y : Nat} (n1 : a ≠ b) (n2 : b ≠ c) (n3 : c ≠ a) (o1 : a ≠ p) (o2 : b ≠ p) (o3 : c ≠ p) (hz : e3 a b c x y → E x y) (hw : e3 a c d x y → E x y) (d1 : d ≠ a) (d2 : d ≠ b) (d3 : d ≠ c) (d4 : d ≠ p) : (((E x y ∧ ¬ (((e3 a b c x y ∨ no2 x y) ∨ no2 x y) ∨ e3 a c d x y)) ∨ ((((((no2 x y ∧ ¬ no2 x y) ∨ e3 a b p x y) ∧ ¬ no2 x y) ∨ e3 b c p x y) ∧ ¬ e3 a c d x y) ∨ (e3 c d p x y ∨ e3 d a p x y))) ↔ ((E x y ∧ ¬ eU c a x y) ∨ ((x = p ∧ (y = c ∨ y = a ∨ y = b ∨ y = d)) ∨ (y = p ∧ (x = c ∨ x = a ∨ x = b ∨ x = d))))) := by
  simp only [e3, eU, no2, or_false, false_or, false_and, not_false_eq_true, and_true] at *
  grind
