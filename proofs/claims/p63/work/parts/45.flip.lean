/-! NO TWO EDGES CROSS; A FLIP KEEPS A MESH. By hand. -/
theorem St.Hs_mix (S : St) (u v a b : Nat) (al be : Int) : S.Hs u v (al * S.xs b - be * S.xs a) (al * S.ys b - be * S.ys a) (al - be) = al * S.sd3 u v b - be * S.sd3 u v a := by
  unfold St.Hs St.sd3 St.sd
  grind
theorem sq_nz {p q : Int} (h : ¬ (p = 0 ∧ q = 0)) : p * p - q * (-q) ≠ 0 := by
  intro z
  rw [Int.mul_neg] at z
  have z1 : 0 ≤ p * p := by rcases Int.le_total 0 p with g | g; exact Int.mul_nonneg g g; exact Int.mul_nonneg_of_nonpos_of_nonpos g g
  have z2 : 0 ≤ q * q := by rcases Int.le_total 0 q with g | g; exact Int.mul_nonneg g g; exact Int.mul_nonneg_of_nonpos_of_nonpos g g
  have z3 : p = 0 := by rcases Int.mul_eq_zero.mp (show p * p = 0 by omega) with g | g <;> exact g
  have z4 : q = 0 := by rcases Int.mul_eq_zero.mp (show q * q = 0 by omega) with g | g <;> exact g
  exact h ⟨z3, z4⟩
theorem St.noX1 {S : St} (hG : S.Geo) {a b e c d f : Nat} (ha : a < 40) (hb : b < 40) (he : e < 40) (hc : c < 40) (hd : d < 40) (hf : f < 40) (h1 : S.ap (a * 40 + b) = (e : Int)) (h2 : S.ap (c * 40 + d) = (f : Int)) (x1 : S.sd3 a b c < 0) (x2 : 0 < S.sd3 a b d) (x3 : 0 < S.sd3 c d a) (x4 : S.sd3 c d b < 0) : False := by
  obtain ⟨hinB, hdi, hA, hcy, hp, hv, hbd, hbn, hal⟩ := hG
  obtain ⟨k1, k2⟩ := hcy a b e ha hb he h1
  obtain ⟨l1, l2⟩ := hcy c d f hc hd hf h2
  obtain ⟨g1, g2, g3, g4⟩ := hp a b e ha hb he h1
  obtain ⟨i1, i2, i3, i4⟩ := hp c d f hc hd hf h2
  have ba := hinB a ha
  have bb := hinB b hb
  have bc := hinB c hc
  have bd := hinB d hd
  have hs : 0 < S.sd3 c d a - S.sd3 c d b := by omega
  -- the place where they cross
  have o1 : ∀ u v : Nat, S.Hs u v (S.sd3 c d a * S.xs b - S.sd3 c d b * S.xs a) (S.sd3 c d a * S.ys b - S.sd3 c d b * S.ys a) (S.sd3 c d a - S.sd3 c d b) = S.sd3 c d a * S.sd3 u v b - S.sd3 c d b * S.sd3 u v a := fun u v => St.Hs_mix S u v a b _ _
  have eX : S.sd3 c d a * S.xs b - S.sd3 c d b * S.xs a = S.sd3 a b d * S.xs c - S.sd3 a b c * S.xs d := by unfold St.sd3 St.sd; grind
  have eY : S.sd3 c d a * S.ys b - S.sd3 c d b * S.ys a = S.sd3 a b d * S.ys c - S.sd3 a b c * S.ys d := by unfold St.sd3 St.sd; grind
  have eS : S.sd3 c d a - S.sd3 c d b = S.sd3 a b d - S.sd3 a b c := by unfold St.sd3 St.sd; grind
  have o2 : ∀ u v : Nat, S.Hs u v (S.sd3 c d a * S.xs b - S.sd3 c d b * S.xs a) (S.sd3 c d a * S.ys b - S.sd3 c d b * S.ys a) (S.sd3 c d a - S.sd3 c d b) = S.sd3 a b d * S.sd3 u v c - S.sd3 a b c * S.sd3 u v d := fun u v => by
    rw [eX, eY, eS]; exact St.Hs_mix S u v d c _ _
  have la : S.Ls a b ((S.xs d - S.xs c) - (S.xs b - S.xs a)) ((S.ys d - S.ys c) - (S.ys b - S.ys a)) = S.sd3 a b d - S.sd3 a b c := by unfold St.Ls St.sd3 St.sd; grind
  have lc : S.Ls c d ((S.xs d - S.xs c) - (S.xs b - S.xs a)) ((S.ys d - S.ys c) - (S.ys b - S.ys a)) = S.sd3 c d a - S.sd3 c d b := by unfold St.Ls St.sd3 St.sd; grind
  have hne : ¬ ((S.xs d - S.xs c) - (S.xs b - S.xs a) = 0 ∧ (S.ys d - S.ys c) - (S.ys b - S.ys a) = 0) := by
    rintro ⟨z1, z2⟩
    rw [z1, z2] at la
    unfold St.Ls at la
    rw [Int.mul_zero, Int.mul_zero] at la
    omega
  have lin : ∀ (al be u v k : Int), 0 < al → be < 0 → al * u - be * v - k * (al - be) = al * (u - k) + (-be) * (v - k) := fun al be u v k _ _ => by grind
  have hin : inner (S.sd3 c d a * S.xs b - S.sd3 c d b * S.xs a) (S.sd3 c d a * S.ys b - S.sd3 c d b * S.ys a) (S.sd3 c d a - S.sd3 c d b) := by
    have flat : ∀ (w : Nat → Int), (w = S.xs ∨ w = S.ys) → ∀ k : Int, ¬ (w a = k ∧ w b = k ∧ w c = k ∧ w d = k) := by
      intro w hw k z
      have : S.sd3 a b c = 0 := by
        rcases hw with e1 | e1
        · subst e1; unfold St.sd3 St.sd; rw [z.1, z.2.1, z.2.2.1]; simp
        · subst e1; unfold St.sd3 St.sd; rw [z.1, z.2.1, z.2.2.1]; simp
      omega
    have low : ∀ (w : Nat → Int), (w = S.xs ∨ w = S.ys) → S.sd3 c d a * w b - S.sd3 c d b * w a = S.sd3 a b d * w c - S.sd3 a b c * w d → (-1000 ≤ w a ∧ w a ≤ 1000) → (-1000 ≤ w b ∧ w b ≤ 1000) → (-1000 ≤ w c ∧ w c ≤ 1000) → (-1000 ≤ w d ∧ w d ≤ 1000) → -1000 * (S.sd3 c d a - S.sd3 c d b) < S.sd3 c d a * w b - S.sd3 c d b * w a ∧ S.sd3 c d a * w b - S.sd3 c d b * w a < 1000 * (S.sd3 c d a - S.sd3 c d b) := by
      intro w hw he2 wa wb wc wd
      have f1 := flat w hw 1000
      have f2 := flat w hw (-1000)
      constructor
      · have t1 := lin (S.sd3 c d a) (S.sd3 c d b) (w b) (w a) (-1000) x3 x4
        have t2 := lin (S.sd3 a b d) (S.sd3 a b c) (w c) (w d) (-1000) x2 x1
        have p1 := Int.mul_nonneg (show 0 ≤ S.sd3 c d a by omega) (show 0 ≤ w b - -1000 by omega)
        have p2 := Int.mul_nonneg (show 0 ≤ -S.sd3 c d b by omega) (show 0 ≤ w a - -1000 by omega)
        have p3 := Int.mul_nonneg (show 0 ≤ S.sd3 a b d by omega) (show 0 ≤ w c - -1000 by omega)
        have p4 := Int.mul_nonneg (show 0 ≤ -S.sd3 a b c by omega) (show 0 ≤ w d - -1000 by omega)
        rcases Int.lt_or_le (-1000 * (S.sd3 c d a - S.sd3 c d b)) (S.sd3 c d a * w b - S.sd3 c d b * w a) with z | z
        · exact z
        · exfalso
          have q1 := (Int.mul_eq_zero.mp (show S.sd3 c d a * (w b - -1000) = 0 by omega)).resolve_left (by omega)
          have q2 := (Int.mul_eq_zero.mp (show -S.sd3 c d b * (w a - -1000) = 0 by omega)).resolve_left (by omega)
          rw [eS, he2] at z
          have q3 := (Int.mul_eq_zero.mp (show S.sd3 a b d * (w c - -1000) = 0 by omega)).resolve_left (by omega)
          have q4 := (Int.mul_eq_zero.mp (show -S.sd3 a b c * (w d - -1000) = 0 by omega)).resolve_left (by omega)
          exact f2 ⟨by omega, by omega, by omega, by omega⟩
      · have t1 := lin (S.sd3 c d a) (S.sd3 c d b) (w b) (w a) 1000 x3 x4
        have t2 := lin (S.sd3 a b d) (S.sd3 a b c) (w c) (w d) 1000 x2 x1
        have p1 := Int.mul_nonpos_of_nonneg_of_nonpos (show 0 ≤ S.sd3 c d a by omega) (show w b - 1000 ≤ 0 by omega)
        have p2 := Int.mul_nonpos_of_nonneg_of_nonpos (show 0 ≤ -S.sd3 c d b by omega) (show w a - 1000 ≤ 0 by omega)
        have p3 := Int.mul_nonpos_of_nonneg_of_nonpos (show 0 ≤ S.sd3 a b d by omega) (show w c - 1000 ≤ 0 by omega)
        have p4 := Int.mul_nonpos_of_nonneg_of_nonpos (show 0 ≤ -S.sd3 a b c by omega) (show w d - 1000 ≤ 0 by omega)
        rcases Int.lt_or_le (S.sd3 c d a * w b - S.sd3 c d b * w a) (1000 * (S.sd3 c d a - S.sd3 c d b)) with z | z
        · exact z
        · exfalso
          have q1 := (Int.mul_eq_zero.mp (show S.sd3 c d a * (w b - 1000) = 0 by omega)).resolve_left (by omega)
          have q2 := (Int.mul_eq_zero.mp (show -S.sd3 c d b * (w a - 1000) = 0 by omega)).resolve_left (by omega)
          rw [eS, he2] at z
          have q3 := (Int.mul_eq_zero.mp (show S.sd3 a b d * (w c - 1000) = 0 by omega)).resolve_left (by omega)
          have q4 := (Int.mul_eq_zero.mp (show -S.sd3 a b c * (w d - 1000) = 0 by omega)).resolve_left (by omega)
          exact f1 ⟨by omega, by omega, by omega, by omega⟩
    have m1 := low S.xs (Or.inl rfl) eX (by omega) (by omega) (by omega) (by omega)
    have m2 := low S.ys (Or.inr rfl) eY (by omega) (by omega) (by omega) (by omega)
    exact ⟨m1.1, m1.2, m2.1, m2.2⟩
  obtain ⟨X, Y, Z, hg, hii, hsg, -⟩ := St.near_ex hdi (x := S.sd3 c d a * S.xs b - S.sd3 c d b * S.xs a) (y := S.sd3 c d a * S.ys b - S.sd3 c d b * S.ys a) (s := S.sd3 c d a - S.sd3 c d b) (p := (S.xs d - S.xs c) - (S.xs b - S.xs a)) (q := (S.ys d - S.ys c) - (S.ys b - S.ys a)) (p' := -((S.ys d - S.ys c) - (S.ys b - S.ys a))) (q' := (S.xs d - S.xs c) - (S.xs b - S.xs a)) hs (sq_nz hne)
  have r1 : S.inT X Y Z a b e := by
    refine ⟨(hsg a b ha hb).2.2.1 ?_ (by rw [la]; omega), (hsg b e hb he).1 ?_, (hsg e a he ha).1 ?_⟩
    · rw [o1, St.sd3_self2, St.sd3_self3]; simp
    · rw [o1, St.sd3_self3, show S.sd3 b e a = S.sd3 a b e from St.sd3_rot S a b e]
      have := Int.mul_neg_of_neg_of_pos x4 g4
      rw [Int.mul_zero]; omega
    · rw [o1, St.sd3_self2, show S.sd3 e a b = S.sd3 a b e from (St.sd3_rot S e a b).symm]
      have := Int.mul_pos x3 g4
      rw [Int.mul_zero]; omega
  have r2 : S.inT X Y Z c d f := by
    refine ⟨(hsg c d hc hd).2.2.1 ?_ (by rw [lc]; omega), (hsg d f hd hf).1 ?_, (hsg f c hf hc).1 ?_⟩
    · rw [o2, St.sd3_self2, St.sd3_self3]; simp
    · rw [o2, St.sd3_self3, show S.sd3 d f c = S.sd3 c d f from St.sd3_rot S c d f]
      have := Int.mul_pos x2 i4
      rw [Int.mul_zero]; omega
    · rw [o2, St.sd3_self2, show S.sd3 f c d = S.sd3 c d f from (St.sd3_rot S f c d).symm]
      have := Int.mul_neg_of_neg_of_pos x1 i4
      rw [Int.mul_zero]; omega
  rcases St.cover1 hA hcy hp hv hg (hii hin) ha hb he hc hd hf h1 h2 r1 r2 with ⟨z, -, -⟩ | ⟨z, -, -⟩ | ⟨-, z, -⟩
  · subst z; rw [St.sd3_self3] at x1; omega
  · subst z; rw [St.sd3_self2] at x1; omega
  · subst z; rw [St.sd3_self3] at x2; omega
/-- two edges of a mesh don't cross -/
theorem St.noX {S : St} (hG : S.Geo) {a b c d : Nat} (ha : a < 40) (hb : b < 40) (hc : c < 40) (hd : d < 40) (h1 : S.ap (a * 40 + b) ≠ -1) (h2 : S.ap (c * 40 + d) ≠ -1) (x1 : opp (S.sd3 a b c) (S.sd3 a b d)) (x2 : opp (S.sd3 c d a) (S.sd3 c d b)) : False := by
  have b1 := hG.2.2.1 (a * 40 + b) (by omega)
  have b2 := hG.2.2.1 (c * 40 + d) (by omega)
  obtain ⟨e, he⟩ := Int.eq_ofNat_of_zero_le (show 0 ≤ S.ap (a * 40 + b) by omega)
  obtain ⟨f, hf⟩ := Int.eq_ofNat_of_zero_le (show 0 ≤ S.ap (c * 40 + d) by omega)
  have eS : S.sd3 c d a - S.sd3 c d b = S.sd3 a b d - S.sd3 a b c := by unfold St.sd3 St.sd; grind
  rcases x1 with ⟨y1, y2⟩ | ⟨y1, y2⟩
  · exact St.noX1 hG ha hb (by omega) hc hd (by omega) he hf y1 y2 (by omega) (by omega)
  · exact St.noX1 hG hc hd (by omega) ha hb (by omega) hf he (by omega) (by omega) y1 y2
theorem St.sd3_swap (S : St) (a b c : Nat) : S.sd3 b a c = -S.sd3 a b c := by
  unfold St.sd3 St.sd
  grind
theorem St.flip_ap (S : St) (a b c d e : Nat) : (S.flip a b c d).ap e = if e = c * 40 + d then (b : Int) else if e = b * 40 + c then (d : Int) else if e = d * 40 + b then (c : Int) else if e = c * 40 + a then (d : Int) else if e = d * 40 + c then (a : Int) else if e = a * 40 + d then (c : Int) else if e = b * 40 + a then -1 else if e = a * 40 + b then -1 else S.ap e := by
  have hf : ∀ T : St, ((T.put a d c).put d b c).ap = ((T.lay a d c).lay d b c).ap := fun T => by
    have h : ((T.put a d c).put d b c).geo = ((T.lay a d c).lay d b c).geo := by rw [St.put_geo, St.lay_geo (St.put_geo _ _ _ _)]
    exact (show ((T.put a d c).put d b c).geo.ap = ((T.lay a d c).lay d b c).geo.ap from congrArg St.ap h)
  have h2 : (S.flip a b c d).ap = (((S.u_ap (uZ (uZ S.ap (a * 40 + b) (-1)) (b * 40 + a) (-1))).lay a d c).lay d b c).ap := hf _
  rw [h2, St.lay_ap, St.lay_ap, St.uap_ap]
  unfold uZ
  rfl
