/-! WHICH fixed edge a place lies on: a side of the triangle that holds it. By hand. -/
theorem St.betw_mix (S : St) (i j q x y : Nat) (h : S.sd3 i j q = 0) : S.sq i j * S.sd3 x y q = (S.sq j q - S.dot i j q) * S.sd3 x y i + (S.sq i q - S.dot i j q) * S.sd3 x y j := by
  unfold St.sq St.dot St.sd3 St.sd at *
  grind
theorem St.sq_nn (S : St) (u v : Nat) : 0 ≤ S.sq u v := by
  unfold St.sq
  have z1 : ∀ t : Int, 0 ≤ t * t := fun t => by rcases Int.le_total 0 t with g | g; exact Int.mul_nonneg g g; exact Int.mul_nonneg_of_nonpos_of_nonpos g g
  have := z1 (S.xs u - S.xs v)
  have := z1 (S.ys u - S.ys v)
  omega
/-- no point lies on an edge between its ends -/
theorem St.on_edge {S : St} (hG : S.Geo) {i j q : Nat} (hi : i < 40) (hj : j < 40) (hq : q < 40) (sq : S.has q) (hE : S.E i j ∨ S.E j i) (hb : S.betw i j q) : False := by
  have main : ∀ x y w : Nat, x < 40 → y < 40 → w < 40 → S.betw x y q → S.ap (x * 40 + y) = (w : Int) → False := by
    intro x y w hx hy hw ⟨b1, b2⟩ hz
    obtain ⟨sx, sy, sw, g⟩ := hG.2.2.2.2.1 x y w hx hy hw hz
    obtain ⟨n1, n2, n3⟩ := St.pos_ne g
    have hsq := St.sq_pos hG.2.1 hx hy sx sy n1
    have q1 := S.sq_nn y q
    have q2 := S.sq_nn x q
    have e1 := S.betw_mix x y q y w b1
    have e2 := S.betw_mix x y q w x b1
    rw [St.sd3_self3, show S.sd3 y w x = S.sd3 x y w from St.sd3_rot S x y w, Int.mul_zero] at e1
    rw [St.sd3_self2, show S.sd3 w x y = S.sd3 x y w from (St.sd3_rot S w x y).symm, Int.mul_zero] at e2
    have m1 := Int.mul_pos (show 0 < S.sq y q - S.dot x y q by omega) g
    have m2 := Int.mul_pos (show 0 < S.sq x q - S.dot x y q by omega) g
    have p1 := mul_pos_l (a := S.sq x y) (by omega) (show 0 < S.sq x y * S.sd3 y w q by omega)
    have p2 := mul_pos_l (a := S.sq x y) (by omega) (show 0 < S.sq x y * S.sd3 w x q by omega)
    rcases St.alone hG hx hy hw hz hq sq (by omega) (by omega) (by omega) with z | z | z
    · rw [z, St.sd3_self2] at p2; omega
    · rw [z, St.sd3_self3] at p1; omega
    · rw [z] at b1; omega
  rcases hE with z | z
  · have b1 := hG.2.2.1 (i * 40 + j) (by omega)
    unfold St.E at z
    obtain ⟨w, hw⟩ := Int.eq_ofNat_of_zero_le (show 0 ≤ S.ap (i * 40 + j) by omega)
    exact main i j w hi hj (by omega) hb hw
  · have b1 := hG.2.2.1 (j * 40 + i) (by omega)
    unfold St.E at z
    obtain ⟨w, hw⟩ := Int.eq_ofNat_of_zero_le (show 0 ≤ S.ap (j * 40 + i) by omega)
    refine main j i w hj hi (by omega) ⟨?_, ?_⟩ hw
    · have := S.sd3_swap i j q
      have := hb.1
      omega
    · have h2 := hb.2
      unfold St.dot at *
      grind
/-- on one line, with a place between: the same ends -/
theorem St.one_line {S : St} (hd : S.dist) {i j u v : Nat} (hi : i < 40) (hj : j < 40) (hu : u < 40) (hv : v < 40) (si : S.has i) (sj : S.has j) (su : S.has u) (sv : S.has v) {x y : Int} (hN : 0 < S.sq i j) (h1 : S.sd i j x y = 0) (h2 : (S.xs i - x) * (S.xs j - x) + (S.ys i - y) * (S.ys j - y) < 0) (h4 : (S.xs u - x) * (S.xs v - x) + (S.ys u - y) * (S.ys v - y) < 0) (y1 : S.sd3 i j u = 0) (y2 : S.sd3 i j v = 0) (d1 : 0 ≤ S.dot i j u) (d2 : 0 ≤ S.dot i j v) (d3 : 0 ≤ S.dot u v i) (d4 : 0 ≤ S.dot u v j) : eU i j u v := by
  obtain ⟨ei, ej⟩ := S.sd3_ends i j
  have par : ∀ w : Nat, S.sd3 i j w = 0 → S.sq i j * (S.xs w - x) = ((S.xs w - x) * (S.xs j - S.xs i) + (S.ys w - y) * (S.ys j - S.ys i)) * (S.xs j - S.xs i) ∧ S.sq i j * (S.ys w - y) = ((S.xs w - x) * (S.xs j - S.xs i) + (S.ys w - y) * (S.ys j - S.ys i)) * (S.ys j - S.ys i) := by
    intro w hw
    unfold St.sq St.sd3 St.sd at *
    constructor <;> grind
  obtain ⟨i1, i2⟩ := par i ei
  obtain ⟨j1, j2⟩ := par j ej
  obtain ⟨u1, u2⟩ := par u y1
  obtain ⟨v1, v2⟩ := par v y2
  have eN : S.sq i j = (S.xs j - S.xs i) * (S.xs j - S.xs i) + (S.ys j - S.ys i) * (S.ys j - S.ys i) := by unfold St.sq; grind
  have ed : ∀ a b q : Nat, S.dot a b q = (S.xs a - S.xs q) * (S.xs b - S.xs q) + (S.ys a - S.ys q) * (S.ys b - S.ys q) := fun _ _ _ => rfl
  rw [ed] at d1 d2 d3 d4
  generalize (S.xs i - x) * (S.xs j - S.xs i) + (S.ys i - y) * (S.ys j - S.ys i) = ti at *
  generalize (S.xs j - x) * (S.xs j - S.xs i) + (S.ys j - y) * (S.ys j - S.ys i) = tj at *
  generalize (S.xs u - x) * (S.xs j - S.xs i) + (S.ys u - y) * (S.ys j - S.ys i) = tu at *
  generalize (S.xs v - x) * (S.xs j - S.xs i) + (S.ys v - y) * (S.ys j - S.ys i) = tv at *
  generalize hNe : S.sq i j = N at *
  generalize S.xs j - S.xs i = ex at *
  generalize S.ys j - S.ys i = ey at *
  -- products along the line
  have prod : ∀ (a b a' b' s t : Int), N * a = s * ex → N * b = s * ey → N * a' = t * ex → N * b' = t * ey → N * (a * a' + b * b') = s * t := by
    intro a b a' b' s t q1 q2 q3 q4
    have : N * (N * (a * a' + b * b')) = N * (s * t) := by
      have e : N * (N * (a * a' + b * b')) = (N * a) * (N * a') + (N * b) * (N * b') := by grind
      rw [e, q1, q2, q3, q4]
      have e2 : s * ex * (t * ex) + s * ey * (t * ey) = (ex * ex + ey * ey) * (s * t) := by grind
      rw [e2, ← eN]
    exact Int.eq_of_mul_eq_mul_left (show N ≠ 0 by omega) this
  have dif : ∀ (a b s t : Int), N * a = s * ex → N * b = t * ex → N * (a - b) = (s - t) * ex := fun a b s t q1 q2 => by rw [Int.mul_sub, Int.sub_mul, q1, q2]
  have dif2 : ∀ (a b s t : Int), N * a = s * ey → N * b = t * ey → N * (a - b) = (s - t) * ey := fun a b s t q1 q2 => by rw [Int.mul_sub, Int.sub_mul, q1, q2]
  have pij := prod _ _ _ _ _ _ i1 i2 j1 j2
  have puv := prod _ _ _ _ _ _ u1 u2 v1 v2
  have sub : ∀ a b c : Int, a - c - (b - c) = a - b := fun a b c => by omega
  have pd := fun (a b q : Nat) (ta tb tq : Int) (a1 : N * (S.xs a - x) = ta * ex) (a2 : N * (S.ys a - y) = ta * ey) (b1 : N * (S.xs b - x) = tb * ex) (b2 : N * (S.ys b - y) = tb * ey) (q1 : N * (S.xs q - x) = tq * ex) (q2 : N * (S.ys q - y) = tq * ey) => by
    have r1 := dif _ _ _ _ a1 q1
    have r2 := dif2 _ _ _ _ a2 q2
    have r3 := dif _ _ _ _ b1 q1
    have r4 := dif2 _ _ _ _ b2 q2
    rw [sub] at r1 r2 r3 r4
    exact prod _ _ _ _ _ _ r1 r2 r3 r4
  have e1 := pd i j u ti tj tu i1 i2 j1 j2 u1 u2
  have e2 := pd i j v ti tj tv i1 i2 j1 j2 v1 v2
  have e3 := pd u v i tu tv ti u1 u2 v1 v2 i1 i2
  have e4 := pd u v j tu tv tj u1 u2 v1 v2 j1 j2
  have n1 := Int.mul_neg_of_pos_of_neg hN h2
  have n2 := Int.mul_neg_of_pos_of_neg hN h4
  have n3 := Int.mul_nonneg (show 0 ≤ N by omega) d1
  have n4 := Int.mul_nonneg (show 0 ≤ N by omega) d2
  have n5 := Int.mul_nonneg (show 0 ≤ N by omega) d3
  have n6 := Int.mul_nonneg (show 0 ≤ N by omega) d4
  rw [pij] at n1
  rw [puv] at n2
  rw [e1] at n3
  rw [e2] at n4
  rw [e3] at n5
  rw [e4] at n6
  have same : ∀ (a b : Nat) (t : Int), a < 40 → b < 40 → S.has a → S.has b → N * (S.xs a - x) = t * ex → N * (S.ys a - y) = t * ey → N * (S.xs b - x) = t * ex → N * (S.ys b - y) = t * ey → a = b := by
    intro a b t ha hb sa sb q1 q2 q3 q4
    have x1 : S.xs a - x = S.xs b - x := Int.eq_of_mul_eq_mul_left (show N ≠ 0 by omega) (by omega)
    have x2 : S.ys a - y = S.ys b - y := Int.eq_of_mul_eq_mul_left (show N ≠ 0 by omega) (by omega)
    exact hd a b ha hb sa sb (by omega) (by omega)
  have sg : ∀ a b : Int, a * b < 0 → (a < 0 ∧ 0 < b) ∨ (0 < a ∧ b < 0) := by
    intro a b h
    rcases Int.lt_trichotomy a 0 with z | z | z
    · left
      refine ⟨z, ?_⟩
      rcases Int.lt_or_le 0 b with w | w
      · exact w
      · have := Int.mul_nonneg_of_nonpos_of_nonpos (show a ≤ 0 by omega) w; omega
    · subst z; rw [Int.zero_mul] at h; omega
    · right
      refine ⟨z, ?_⟩
      rcases Int.lt_or_le b 0 with w | w
      · exact w
      · have := Int.mul_nonneg (show 0 ≤ a by omega) w; omega
  have ns : ∀ a b : Int, 0 ≤ a * b → ¬ (a < 0 ∧ 0 < b) ∧ ¬ (0 < a ∧ b < 0) := by
    intro a b h
    refine ⟨fun z => ?_, fun z => ?_⟩
    · have := Int.mul_neg_of_neg_of_pos z.1 z.2; omega
    · have := Int.mul_neg_of_pos_of_neg z.1 z.2; omega
  have m1 := sg _ _ n1
  have m2 := sg _ _ n2
  have m3 := ns _ _ n3
  have m4 := ns _ _ n4
  have m5 := ns _ _ n5
  have m6 := ns _ _ n6
  have fin : (tu = ti ∧ tv = tj) ∨ (tu = tj ∧ tv = ti) := by omega
  rcases fin with ⟨q1, q2⟩ | ⟨q1, q2⟩
  · rw [q1] at u1 u2
    rw [q2] at v1 v2
    exact Or.inl ⟨same u i ti hu hi su si u1 u2 i1 i2, same v j tj hv hj sv sj v1 v2 j1 j2⟩
  · rw [q1] at u1 u2
    rw [q2] at v1 v2
    exact Or.inr ⟨same u j tj hu hj su sj u1 u2 j1 j2, same v i ti hv hi sv si v1 v2 i1 i2⟩
/-- two edges that have a place between their ends are one -/
theorem St.one_edge {S : St} (hG : S.Geo) {i j u v : Nat} (hi : i < 40) (hj : j < 40) (hu : u < 40) (hv : v < 40) (hE : S.E i j ∨ S.E j i) (hF : S.E u v ∨ S.E v u) {x y : Int} (h1 : S.sd i j x y = 0) (h2 : (S.xs i - x) * (S.xs j - x) + (S.ys i - y) * (S.ys j - y) < 0) (h3 : S.sd u v x y = 0) (h4 : (S.xs u - x) * (S.xs v - x) + (S.ys u - y) * (S.ys v - y) < 0) : eU i j u v := by
  have sij : S.has i ∧ S.has j := hE.elim (fun z => St.E_has hG.PM hi hj z) (fun z => ⟨(St.E_has hG.PM hj hi z).2, (St.E_has hG.PM hj hi z).1⟩)
  have suv : S.has u ∧ S.has v := hF.elim (fun z => St.E_has hG.PM hu hv z) (fun z => ⟨(St.E_has hG.PM hv hu z).2, (St.E_has hG.PM hv hu z).1⟩)
  -- the place, from the one edge and from the other
  have k1 : ∀ a b c d : Nat, S.sd a b x y = 0 → S.sd c d x y = 0 → ((S.xs d - S.xs c) * (S.xs d - S.xs c) + (S.ys d - S.ys c) * (S.ys d - S.ys c)) * S.sd c d x y = 0 := fun a b c d _ h => by rw [h, Int.mul_zero]
  have mixu : ∀ a b : Nat, S.sd u v x y = 0 → S.sq u v * S.sd a b x y = ((S.xs v - x) * (S.xs v - S.xs u) + (S.ys v - y) * (S.ys v - S.ys u)) * S.sd3 a b u + ((x - S.xs u) * (S.xs v - S.xs u) + (y - S.ys u) * (S.ys v - S.ys u)) * S.sd3 a b v := by
    intro a b h
    unfold St.sq St.sd3 St.sd at *
    grind
  have mixi : ∀ a b : Nat, S.sd i j x y = 0 → S.sq i j * S.sd a b x y = ((S.xs j - x) * (S.xs j - S.xs i) + (S.ys j - y) * (S.ys j - S.ys i)) * S.sd3 a b i + ((x - S.xs i) * (S.xs j - S.xs i) + (y - S.ys i) * (S.ys j - S.ys i)) * S.sd3 a b j := by
    intro a b h
    unfold St.sq St.sd3 St.sd at *
    grind
  have z1 : ∀ t : Int, 0 ≤ t * t := fun t => by rcases Int.le_total 0 t with g | g; exact Int.mul_nonneg g g; exact Int.mul_nonneg_of_nonpos_of_nonpos g g
  have wv : 0 < (S.xs v - x) * (S.xs v - S.xs u) + (S.ys v - y) * (S.ys v - S.ys u) := by
    have r : (S.xs v - x) * (S.xs v - S.xs u) + (S.ys v - y) * (S.ys v - S.ys u) = (S.xs v - x) * (S.xs v - x) + (S.ys v - y) * (S.ys v - y) - ((S.xs u - x) * (S.xs v - x) + (S.ys u - y) * (S.ys v - y)) := by grind
    have := z1 (S.xs v - x)
    have := z1 (S.ys v - y)
    omega
  have wu : 0 < (x - S.xs u) * (S.xs v - S.xs u) + (y - S.ys u) * (S.ys v - S.ys u) := by
    have r : (x - S.xs u) * (S.xs v - S.xs u) + (y - S.ys u) * (S.ys v - S.ys u) = (S.xs u - x) * (S.xs u - x) + (S.ys u - y) * (S.ys u - y) - ((S.xs u - x) * (S.xs v - x) + (S.ys u - y) * (S.ys v - y)) := by grind
    have := z1 (S.xs u - x)
    have := z1 (S.ys u - y)
    omega
  have wj : 0 < (S.xs j - x) * (S.xs j - S.xs i) + (S.ys j - y) * (S.ys j - S.ys i) := by
    have r : (S.xs j - x) * (S.xs j - S.xs i) + (S.ys j - y) * (S.ys j - S.ys i) = (S.xs j - x) * (S.xs j - x) + (S.ys j - y) * (S.ys j - y) - ((S.xs i - x) * (S.xs j - x) + (S.ys i - y) * (S.ys j - y)) := by grind
    have := z1 (S.xs j - x)
    have := z1 (S.ys j - y)
    omega
  have wi : 0 < (x - S.xs i) * (S.xs j - S.xs i) + (y - S.ys i) * (S.ys j - S.ys i) := by
    have r : (x - S.xs i) * (S.xs j - S.xs i) + (y - S.ys i) * (S.ys j - S.ys i) = (S.xs i - x) * (S.xs i - x) + (S.ys i - y) * (S.ys i - y) - ((S.xs i - x) * (S.xs j - x) + (S.ys i - y) * (S.ys j - y)) := by grind
    have := z1 (S.xs i - x)
    have := z1 (S.ys i - y)
    omega
  have e1 := mixu i j h3
  have e2 := mixi u v h1
  rw [h1, Int.mul_zero] at e1
  rw [h3, Int.mul_zero] at e2
  generalize (S.xs v - x) * (S.xs v - S.xs u) + (S.ys v - y) * (S.ys v - S.ys u) = A at *
  generalize (x - S.xs u) * (S.xs v - S.xs u) + (y - S.ys u) * (S.ys v - S.ys u) = B at *
  generalize (S.xs j - x) * (S.xs j - S.xs i) + (S.ys j - y) * (S.ys j - S.ys i) = C at *
  generalize (x - S.xs i) * (S.xs j - S.xs i) + (y - S.ys i) * (S.ys j - S.ys i) = D at *
  have cross : opp (S.sd3 i j u) (S.sd3 i j v) → opp (S.sd3 u v i) (S.sd3 u v j) → False := by
    intro o1 o2
    have o1' : opp (S.sd3 j i u) (S.sd3 j i v) := by
      have := S.sd3_swap i j u
      have := S.sd3_swap i j v
      rcases o1 with z | z
      · exact Or.inr ⟨by omega, by omega⟩
      · exact Or.inl ⟨by omega, by omega⟩
    have o2' : opp (S.sd3 v u i) (S.sd3 v u j) := by
      have := S.sd3_swap u v i
      have := S.sd3_swap u v j
      rcases o2 with z | z
      · exact Or.inr ⟨by omega, by omega⟩
      · exact Or.inl ⟨by omega, by omega⟩
    have sw : ∀ {a b : Int}, opp a b → opp b a := fun z => z.elim (fun q => Or.inr ⟨q.2, q.1⟩) (fun q => Or.inl ⟨q.2, q.1⟩)
    rcases hE with p1 | p1 <;> rcases hF with p2 | p2
    · exact St.noX hG hi hj hu hv p1 p2 o1 o2
    · exact St.noX hG hi hj hv hu p1 p2 (sw o1) o2'
    · exact St.noX hG hj hi hu hv p1 p2 o1' (sw o2)
    · exact St.noX hG hj hi hv hu p1 p2 (sw o1') (sw o2')
  have sgn : ∀ {p q s t : Int}, 0 < p → 0 < q → 0 = p * s + q * t → (s = 0 ∧ t = 0) ∨ opp s t := by
    intro p q s t hp hq h
    rcases Int.lt_trichotomy s 0 with z | z | z
    · right; left
      refine ⟨z, ?_⟩
      have := Int.mul_neg_of_pos_of_neg hp z
      exact mul_pos_l hq (by omega)
    · left
      subst z
      rw [Int.mul_zero] at h
      exact ⟨rfl, (Int.mul_eq_zero.mp (show q * t = 0 by omega)).resolve_left (by omega)⟩
    · right; right
      refine ⟨z, ?_⟩
      have := Int.mul_pos hp z
      rcases Int.lt_or_le t 0 with y | y
      · exact y
      · have := Int.mul_nonneg (show 0 ≤ q by omega) y; omega
  rcases sgn wv wu e1 with ⟨y1, y2⟩ | o1
  · rcases sgn wj wi e2 with ⟨y3, y4⟩ | o2
    · -- on one line
      apply Classical.byContradiction
      intro hno
      have nb : ∀ q : Nat, q < 40 → S.has q → ¬ S.betw i j q := fun q hq sq hb => St.on_edge hG hi hj hq sq hE hb
      have nb2 : ∀ q : Nat, q < 40 → S.has q → ¬ S.betw u v q := fun q hq sq hb => St.on_edge hG hu hv hq sq hF hb
      have d1 : 0 ≤ S.dot i j u := by
        rcases Int.lt_or_le (S.dot i j u) 0 with z | z
        · exact absurd ⟨y1, z⟩ (nb u hu suv.1)
        · exact z
      have d2 : 0 ≤ S.dot i j v := by
        rcases Int.lt_or_le (S.dot i j v) 0 with z | z
        · exact absurd ⟨y2, z⟩ (nb v hv suv.2)
        · exact z
      have d3 : 0 ≤ S.dot u v i := by
        rcases Int.lt_or_le (S.dot u v i) 0 with z | z
        · exact absurd ⟨y3, z⟩ (nb2 i hi sij.1)
        · exact z
      have d4 : 0 ≤ S.dot u v j := by
        rcases Int.lt_or_le (S.dot u v j) 0 with z | z
        · exact absurd ⟨y4, z⟩ (nb2 j hj sij.2)
        · exact z
      have hij : i ≠ j := fun z => by
        rw [z] at h2
        have := z1 (S.xs j - x)
        have := z1 (S.ys j - y)
        omega
      have hN := St.sq_pos hG.2.1 hi hj sij.1 sij.2 hij
      exact hno (St.one_line hG.2.1 hi hj hu hv sij.1 sij.2 suv.1 suv.2 (by omega) h1 h2 h4 y1 y2 d1 d2 d3 d4)
    · have e1' : 0 = A * S.sd3 i j u + B * S.sd3 i j v := e1
      exfalso
      have t : S.sd3 u v j - S.sd3 u v i = S.sd3 i j u - S.sd3 i j v := by unfold St.sd3 St.sd; grind
      rcases o2 with z | z <;> omega
  · rcases sgn wj wi e2 with ⟨y3, y4⟩ | o2
    · exfalso
      have t : S.sd3 u v j - S.sd3 u v i = S.sd3 i j u - S.sd3 i j v := by unfold St.sd3 St.sd; grind
      rcases o1 with z | z <;> omega
    · exact (cross o1 o2).elim
