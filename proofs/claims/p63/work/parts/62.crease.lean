/-! A CREASE that can be flipped, while edges cross the line from a to b. By hand. -/
theorem frac_max {P : Nat → Prop} {N D : Nat → Int} : ∀ (n : Nat), (∀ e : Nat, e < n → P e → 0 < D e) → (∃ e : Nat, e < n ∧ P e) → ∃ e : Nat, e < n ∧ P e ∧ ∀ f : Nat, f < n → P f → N f * D e ≤ N e * D f := by
  intro n
  induction n with
  | zero => intro _ ⟨e, he, _⟩; omega
  | succ n ih =>
    intro hD hex
    by_cases c : ∃ e : Nat, e < n ∧ P e
    · obtain ⟨e, e1, e2, e3⟩ := ih (fun e he hp => hD e (by omega) hp) c
      by_cases c2 : P n ∧ N e * D n < N n * D e
      · refine ⟨n, by omega, c2.1, fun f hf hp => ?_⟩
        by_cases cf : f = n
        · rw [cf]; exact Int.le_refl _
        · have h1 := e3 f (by omega) hp
          have de := hD e (by omega) e2
          have dn := hD n (by omega) c2.1
          have df := hD f (by omega) hp
          have m1 := Int.mul_le_mul_of_nonneg_right h1 (show 0 ≤ D n by omega)
          have m2 := Int.mul_le_mul_of_nonneg_right (show N e * D n ≤ N n * D e by omega) (show 0 ≤ D f by omega)
          have r1 : N f * D e * D n = D e * (N f * D n) := by grind
          have r2 : N e * D f * D n = N e * D n * D f := by grind
          have r3 : N n * D e * D f = D e * (N n * D f) := by grind
          have : D e * (N f * D n) ≤ D e * (N n * D f) := by omega
          exact Int.le_of_mul_le_mul_left this de
      · refine ⟨e, by omega, e2, fun f hf hp => ?_⟩
        by_cases cf : f = n
        · subst cf
          rcases Int.lt_or_le (N e * D f) (N f * D e) with z | z
          · exact absurd ⟨hp, z⟩ c2
          · exact z
        · exact e3 f (by omega) hp
    · obtain ⟨e, e1, e2⟩ := hex
      have en : e = n := by
        by_cases z : e = n
        · exact z
        · exact absurd ⟨e, by omega, e2⟩ c
      subst en
      refine ⟨e, by omega, e2, fun f hf hp => ?_⟩
      by_cases cf : f = e
      · rw [cf]; exact Int.le_refl _
      · exact absurd ⟨f, by omega, hp⟩ c
/-- how far along the line -/
def St.ta (S : St) (a b p : Nat) : Int := (S.xs b - S.xs a) * S.xs p + (S.ys b - S.ys a) * S.ys p
theorem St.ta_id (S : St) (a b u v c : Nat) : S.sq a b * S.sd3 u v c = (S.ta a b v - S.ta a b u) * (S.sd3 a b c - S.sd3 a b u) - (S.sd3 a b v - S.sd3 a b u) * (S.ta a b c - S.ta a b u) := by
  unfold St.sq St.ta St.sd3 St.sd
  grind
theorem St.sd_4s (S : St) (a b u v c d : Nat) : S.sd3 d v c * S.sd3 a b u + S.sd3 u d c * S.sd3 a b v = S.sd3 v u d * S.sd3 a b c + S.sd3 u v c * S.sd3 a b d := by
  unfold St.sd3 St.sd
  grind
/-- an edge that crosses the line from a to b, from its right to its left -/
def St.crs (S : St) (a b u v : Nat) : Prop := S.E u v ∧ S.sd3 a b u < 0 ∧ 0 < S.sd3 a b v ∧ 0 < S.sd3 u v a ∧ S.sd3 u v b < 0
theorem St.not_border {S : St} (hG : S.Geo) {u v q : Nat} (hu : u < 40) (hv : v < 40) (hq : q < 40) (hE : S.E u v) (h : S.sd3 u v q < 0) : S.E v u := by
  intro z
  have o := hG.2.2.2.2.2.2.1 u v hu hv hE z
  have bq := hG.1 q hq
  unfold St.sd3 St.sd at h
  rcases o with ⟨a1, a2, a3⟩ | ⟨a1, a2, a3⟩ | ⟨a1, a2, a3⟩ | ⟨a1, a2, a3⟩
  · rw [a1, a2, Int.sub_self, Int.zero_mul, Int.sub_zero] at h
    have := Int.mul_nonneg (show 0 ≤ S.xs v - S.xs u by omega) (show 0 ≤ S.ys q - -1000 by omega)
    omega
  · rw [a1, a2, Int.sub_self, Int.zero_mul, Int.zero_sub] at h
    have := Int.mul_nonpos_of_nonneg_of_nonpos (show 0 ≤ S.ys v - S.ys u by omega) (show S.xs q - 1000 ≤ 0 by omega)
    omega
  · rw [a1, a2, Int.sub_self, Int.zero_mul, Int.sub_zero] at h
    have := Int.mul_nonneg_of_nonpos_of_nonpos (show S.xs v - S.xs u ≤ 0 by omega) (show S.ys q - 1000 ≤ 0 by omega)
    omega
  · rw [a1, a2, Int.sub_self, Int.zero_mul, Int.zero_sub] at h
    have := Int.mul_nonpos_of_nonpos_of_nonneg (show S.ys v - S.ys u ≤ 0 by omega) (show 0 ≤ S.xs q - -1000 by omega)
    omega
theorem St.sd3_ends (S : St) (a b : Nat) : S.sd3 a b a = 0 ∧ S.sd3 a b b = 0 := ⟨St.sd3_self3 S a b, St.sd3_self2 S a b⟩
/-- beside a crossing edge, on the side of a and on the side of b -/
theorem St.crs_next {S : St} (hG : S.Geo) {a b u v : Nat} (ha : a < 40) (hb : b < 40) (hu : u < 40) (hv : v < 40) (sa : S.has a) (sb : S.has b) (h : S.crs a b u v) : ∃ c d : Nat, c < 40 ∧ d < 40 ∧ S.ap (u * 40 + v) = (c : Int) ∧ S.ap (v * 40 + u) = (d : Int) ∧ 0 < S.sd3 u v c ∧ 0 < S.sd3 v u d ∧ (0 < S.sd3 a b c → S.crs a b u c) ∧ (S.sd3 a b c < 0 → S.crs a b c v) ∧ (0 < S.sd3 a b d → S.crs a b u d) ∧ (S.sd3 a b d < 0 → S.crs a b d v) := by
  obtain ⟨h1, h2, h3, h4, h5⟩ := h
  have h6 := St.not_border hG hu hv hb h1 h5
  obtain ⟨c, d, f1, f2, g1, g2, g3, g4, g5⟩ := St.two hG hu hv h1 h6
  obtain ⟨-, -, c4, d4⟩ := g1
  obtain ⟨hinB, hdi, hA, hcy, hpo, hcv, hbd, hbn, hal⟩ := id hG
  obtain ⟨k1, k2⟩ := hcy u v c hu hv c4 f1
  obtain ⟨l1, l2⟩ := hcy v u d hv hu d4 f2
  obtain ⟨ea, eb⟩ := S.sd3_ends a b
  have E1 : S.E v c := by unfold St.E; omega
  have E2 : S.E c u := by unfold St.E; omega
  have E3 : S.E u d := by unfold St.E; omega
  have E4 : S.E d v := by unfold St.E; omega
  have w1 := S.sd3_swap u v a
  have w2 := S.sd3_swap u v b
  -- the triangle u v c on the side of a
  have alA : ∀ q : Nat, q < 40 → S.has q → S.sd3 a b q = 0 → ¬ (0 ≤ S.sd3 u v q ∧ 0 ≤ S.sd3 v c q ∧ 0 ≤ S.sd3 c u q ∧ S.sd3 a b c ≠ 0) := by
    rintro q hq sq z0 ⟨z1, z2, z3, z4⟩
    rcases St.alone hG hu hv c4 f1 hq sq z1 z2 z3 with z | z | z
    · rw [z] at z0; omega
    · rw [z] at z0; omega
    · rw [z] at z0; exact z4 z0
  have alB : ∀ q : Nat, q < 40 → S.has q → S.sd3 a b q = 0 → ¬ (0 ≤ S.sd3 v u q ∧ 0 ≤ S.sd3 u d q ∧ 0 ≤ S.sd3 d v q ∧ S.sd3 a b d ≠ 0) := by
    rintro q hq sq z0 ⟨z1, z2, z3, z4⟩
    rcases St.alone hG hv hu d4 f2 hq sq z1 z2 z3 with z | z | z
    · rw [z] at z0; omega
    · rw [z] at z0; omega
    · rw [z] at z0; exact z4 z0
  have bA := S.bary3 u v c a a b
  have bB := S.bary3 u v c b a b
  have cA := S.bary3 v u d a a b
  have cB := S.bary3 v u d b a b
  have sA := S.bary0 u v c a
  have sB := S.bary0 u v c b
  have tA := S.bary0 v u d a
  have tB := S.bary0 v u d b
  rw [ea, Int.mul_zero] at bA cA
  rw [eb, Int.mul_zero] at bB cB
  refine ⟨c, d, c4, d4, f1, f2, g4, g5, fun z => ?_, fun z => ?_, fun z => ?_, fun z => ?_⟩
  · -- c to the left
    have q1 : S.sd3 c u a < 0 := by
      rcases Int.lt_or_le (S.sd3 c u a) 0 with y | y
      · exact y
      · exfalso
        have m1 := Int.mul_nonneg y (show 0 ≤ S.sd3 a b v by omega)
        have m2 := Int.mul_pos h4 z
        have q : 0 < S.sd3 v c a := by
          rcases Int.lt_or_le 0 (S.sd3 v c a) with t | t
          · exact t
          · have := Int.mul_nonneg_of_nonpos_of_nonpos t (show S.sd3 a b u ≤ 0 by omega); omega
        exact alA a ha sa ea ⟨by omega, by omega, y, by omega⟩
    have q2 : 0 < S.sd3 c u b := by
      rcases Int.lt_or_le 0 (S.sd3 c u b) with y | y
      · exact y
      · exfalso
        have m1 := Int.mul_nonpos_of_nonpos_of_nonneg y (show 0 ≤ S.sd3 a b v by omega)
        have m2 := Int.mul_neg_of_neg_of_pos h5 z
        have q : S.sd3 v c b < 0 := by
          rcases Int.lt_or_le (S.sd3 v c b) 0 with t | t
          · exact t
          · have := Int.mul_nonpos_of_nonneg_of_nonpos t (show S.sd3 a b u ≤ 0 by omega); omega
        omega
    have y1 := S.sd3_swap c u a
    have y2 := S.sd3_swap c u b
    exact ⟨St.not_border hG c4 hu ha E2 q1, h2, z, by omega, by omega⟩
  · -- c to the right
    have q1 : S.sd3 v c a < 0 := by
      rcases Int.lt_or_le (S.sd3 v c a) 0 with y | y
      · exact y
      · exfalso
        have m1 := Int.mul_nonpos_of_nonneg_of_nonpos y (show S.sd3 a b u ≤ 0 by omega)
        have m2 := Int.mul_neg_of_pos_of_neg h4 z
        have q : 0 < S.sd3 c u a := by
          rcases Int.lt_or_le 0 (S.sd3 c u a) with t | t
          · exact t
          · have := Int.mul_nonpos_of_nonpos_of_nonneg t (show 0 ≤ S.sd3 a b v by omega); omega
        exact alA a ha sa ea ⟨by omega, y, by omega, by omega⟩
    have q2 : 0 < S.sd3 v c b := by
      rcases Int.lt_or_le 0 (S.sd3 v c b) with y | y
      · exact y
      · exfalso
        have m1 := Int.mul_nonneg_of_nonpos_of_nonpos y (show S.sd3 a b u ≤ 0 by omega)
        have m2 := Int.mul_pos_of_neg_of_neg h5 z
        have q : S.sd3 c u b < 0 := by
          rcases Int.lt_or_le (S.sd3 c u b) 0 with t | t
          · exact t
          · have := Int.mul_nonneg t (show 0 ≤ S.sd3 a b v by omega); omega
        omega
    have y1 := S.sd3_swap v c a
    have y2 := S.sd3_swap v c b
    exact ⟨St.not_border hG hv c4 ha E1 q1, z, h3, by omega, by omega⟩
  · -- d to the left
    have q1 : S.sd3 u d b < 0 := by
      rcases Int.lt_or_le (S.sd3 u d b) 0 with y | y
      · exact y
      · exfalso
        have m1 := Int.mul_nonneg y (show 0 ≤ S.sd3 a b v by omega)
        have m2 := Int.mul_pos (show 0 < S.sd3 v u b by omega) z
        have q : 0 < S.sd3 d v b := by
          rcases Int.lt_or_le 0 (S.sd3 d v b) with t | t
          · exact t
          · have := Int.mul_nonneg_of_nonpos_of_nonpos t (show S.sd3 a b u ≤ 0 by omega); omega
        exact alB b hb sb eb ⟨by omega, y, by omega, by omega⟩
    have q2 : 0 < S.sd3 u d a := by
      rcases Int.lt_or_le 0 (S.sd3 u d a) with y | y
      · exact y
      · exfalso
        have m1 := Int.mul_nonpos_of_nonpos_of_nonneg y (show 0 ≤ S.sd3 a b v by omega)
        have m2 := Int.mul_neg_of_neg_of_pos (show S.sd3 v u a < 0 by omega) z
        have q : S.sd3 d v a < 0 := by
          rcases Int.lt_or_le (S.sd3 d v a) 0 with t | t
          · exact t
          · have := Int.mul_nonpos_of_nonneg_of_nonpos t (show S.sd3 a b u ≤ 0 by omega); omega
        omega
    exact ⟨E3, h2, z, q2, q1⟩
  · -- d to the right
    have q1 : S.sd3 d v b < 0 := by
      rcases Int.lt_or_le (S.sd3 d v b) 0 with y | y
      · exact y
      · exfalso
        have m1 := Int.mul_nonpos_of_nonneg_of_nonpos y (show S.sd3 a b u ≤ 0 by omega)
        have m2 := Int.mul_neg_of_pos_of_neg (show 0 < S.sd3 v u b by omega) z
        have q : 0 < S.sd3 u d b := by
          rcases Int.lt_or_le 0 (S.sd3 u d b) with t | t
          · exact t
          · have := Int.mul_nonpos_of_nonpos_of_nonneg t (show 0 ≤ S.sd3 a b v by omega); omega
        exact alB b hb sb eb ⟨by omega, by omega, y, by omega⟩
    have q2 : 0 < S.sd3 d v a := by
      rcases Int.lt_or_le 0 (S.sd3 d v a) with y | y
      · exact y
      · exfalso
        have m1 := Int.mul_nonneg_of_nonpos_of_nonpos y (show S.sd3 a b u ≤ 0 by omega)
        have m2 := Int.mul_pos_of_neg_of_neg (show S.sd3 v u a < 0 by omega) z
        have q : S.sd3 u d a < 0 := by
          rcases Int.lt_or_le (S.sd3 u d a) 0 with t | t
          · exact t
          · have := Int.mul_nonneg t (show 0 ≤ S.sd3 a b v by omega); omega
        omega
    exact ⟨E4, z, h3, q2, q1⟩
theorem zab_p {x : Int} (h : 0 ≤ x) : zabs x = x := by unfold zabs; rw [if_neg (by omega)]
theorem zab_n {x : Int} (h : x ≤ 0) : zabs x = -x := by unfold zabs; split <;> omega
/-- while an edge crosses, one of them can be flipped -/
theorem St.crease {S : St} (hG : S.Geo) {a b : Nat} (ha : a < 40) (hb : b < 40) (sa : S.has a) (sb : S.has b) (hab : a ≠ b) (hex : ∃ u v : Nat, u < 40 ∧ v < 40 ∧ S.crs a b u v) : ∃ u v c d : Nat, (u < 40 ∧ v < 40 ∧ c < 40 ∧ d < 40) ∧ S.crs a b u v ∧ S.ap (u * 40 + v) = (c : Int) ∧ S.ap (v * 40 + u) = (d : Int) ∧ 0 < S.U (S.liS a b) u v c d := by
  have hsq : 0 < S.sq a b := by have := St.sq_pos hG.2.1 ha hb sa sb hab; omega
  have P0 : ∃ e : Nat, e < 1600 ∧ (fun e => S.crs a b (e / 40) (e % 40)) e := by
    obtain ⟨u, v, hu, hv, h⟩ := hex
    refine ⟨u * 40 + v, by omega, ?_⟩
    show S.crs a b ((u * 40 + v) / 40) ((u * 40 + v) % 40)
    rw [show (u * 40 + v) / 40 = u by omega, show (u * 40 + v) % 40 = v by omega]
    exact h
  obtain ⟨e0, m1, m2, m3⟩ := frac_max (P := fun e => S.crs a b (e / 40) (e % 40)) (N := fun e => S.sd3 a b (e % 40) * (-S.sd3 a b (e / 40))) (D := fun e => S.sd3 a b (e % 40) + (-S.sd3 a b (e / 40))) 1600 (fun e _ hp => by
    have h1 := hp.2.1
    have h2 := hp.2.2.1
    show 0 < S.sd3 a b (e % 40) + (-S.sd3 a b (e / 40))
    omega) P0
  obtain ⟨e, n1, ⟨n2, n2'⟩, n3⟩ := frac_max (P := fun e => S.crs a b (e / 40) (e % 40) ∧ S.sd3 a b (e0 % 40) * (-S.sd3 a b (e0 / 40)) * (S.sd3 a b (e % 40) + (-S.sd3 a b (e / 40))) ≤ S.sd3 a b (e % 40) * (-S.sd3 a b (e / 40)) * (S.sd3 a b (e0 % 40) + (-S.sd3 a b (e0 / 40)))) (N := fun e => -(S.sd3 a b (e % 40) * S.ta a b (e / 40) + (-S.sd3 a b (e / 40)) * S.ta a b (e % 40))) (D := fun e => S.sd3 a b (e % 40) + (-S.sd3 a b (e / 40))) 1600 (fun e _ hp => by
    have h1 := hp.1.2.1
    have h2 := hp.1.2.2.1
    show 0 < S.sd3 a b (e % 40) + (-S.sd3 a b (e / 40))
    omega) ⟨e0, m1, m2, Int.le_refl _⟩
  -- the chosen one
  have hu : e / 40 < 40 := by omega
  have hv : e % 40 < 40 := by omega
  obtain ⟨c, d, c4, d4, f1, f2, g4, g5, x1, x2, x3, x4⟩ := St.crs_next hG ha hb hu hv sa sb n2
  have hm : ∀ f : Nat, f < 1600 → S.crs a b (f / 40) (f % 40) → S.sd3 a b (f % 40) * (-S.sd3 a b (f / 40)) * (S.sd3 a b (e % 40) + (-S.sd3 a b (e / 40))) ≤ S.sd3 a b (e % 40) * (-S.sd3 a b (e / 40)) * (S.sd3 a b (f % 40) + (-S.sd3 a b (f / 40))) := by
    intro f hf hp
    have h1 : S.sd3 a b (f % 40) * (-S.sd3 a b (f / 40)) * (S.sd3 a b (e0 % 40) + (-S.sd3 a b (e0 / 40))) ≤ S.sd3 a b (e0 % 40) * (-S.sd3 a b (e0 / 40)) * (S.sd3 a b (f % 40) + (-S.sd3 a b (f / 40))) := m3 f hf hp
    have h2 := n2'
    have d0 : 0 < S.sd3 a b (e0 % 40) + (-S.sd3 a b (e0 / 40)) := by have := m2.2.1; have := m2.2.2.1; omega
    have d1 : 0 < S.sd3 a b (e % 40) + (-S.sd3 a b (e / 40)) := by have := n2.2.1; have := n2.2.2.1; omega
    have d2 : 0 < S.sd3 a b (f % 40) + (-S.sd3 a b (f / 40)) := by have := hp.2.1; have := hp.2.2.1; omega
    generalize S.sd3 a b (f % 40) * (-S.sd3 a b (f / 40)) = Nf at *
    generalize S.sd3 a b (e0 % 40) * (-S.sd3 a b (e0 / 40)) = N0 at *
    generalize S.sd3 a b (e % 40) * (-S.sd3 a b (e / 40)) = Ne at *
    generalize S.sd3 a b (f % 40) + (-S.sd3 a b (f / 40)) = Df at *
    generalize S.sd3 a b (e0 % 40) + (-S.sd3 a b (e0 / 40)) = D0 at *
    generalize S.sd3 a b (e % 40) + (-S.sd3 a b (e / 40)) = De at *
    have p1 := Int.mul_le_mul_of_nonneg_right h1 (show 0 ≤ De by omega)
    have p2 := Int.mul_le_mul_of_nonneg_right h2 (show 0 ≤ Df by omega)
    have r1 : Nf * D0 * De = D0 * (Nf * De) := by grind
    have r2 : N0 * Df * De = N0 * De * Df := by grind
    have r3 : Ne * D0 * Df = D0 * (Ne * Df) := by grind
    have : D0 * (Nf * De) ≤ D0 * (Ne * Df) := by omega
    exact Int.le_of_mul_le_mul_left this d0
  have code : ∀ u v : Nat, u < 40 → v < 40 → S.crs a b u v → (S.sd3 a b v * (-S.sd3 a b u) * (S.sd3 a b (e % 40) + (-S.sd3 a b (e / 40))) ≤ S.sd3 a b (e % 40) * (-S.sd3 a b (e / 40)) * (S.sd3 a b v + (-S.sd3 a b u))) ∧ (S.sd3 a b v = S.sd3 a b (e % 40) → S.sd3 a b u = S.sd3 a b (e / 40) → -(S.sd3 a b v * S.ta a b u + (-S.sd3 a b u) * S.ta a b v) * (S.sd3 a b (e % 40) + (-S.sd3 a b (e / 40))) ≤ -(S.sd3 a b (e % 40) * S.ta a b (e / 40) + (-S.sd3 a b (e / 40)) * S.ta a b (e % 40)) * (S.sd3 a b v + (-S.sd3 a b u))) := by
    intro u v hu2 hv2 h
    have e1 : (u * 40 + v) / 40 = u := by omega
    have e2 : (u * 40 + v) % 40 = v := by omega
    have h1 := hm (u * 40 + v) (by omega) (by rw [e1, e2]; exact h)
    rw [e1, e2] at h1
    refine ⟨h1, fun q1 q2 => ?_⟩
    have h2 := n3 (u * 40 + v) (by omega) ⟨by rw [e1, e2]; exact h, by rw [e1, e2, q1, q2]; exact n2'⟩
    have h3 : -(S.sd3 a b ((u * 40 + v) % 40) * S.ta a b ((u * 40 + v) / 40) + (-S.sd3 a b ((u * 40 + v) / 40)) * S.ta a b ((u * 40 + v) % 40)) * (S.sd3 a b (e % 40) + (-S.sd3 a b (e / 40))) ≤ -(S.sd3 a b (e % 40) * S.ta a b (e / 40) + (-S.sd3 a b (e / 40)) * S.ta a b (e % 40)) * (S.sd3 a b ((u * 40 + v) % 40) + (-S.sd3 a b ((u * 40 + v) / 40))) := h2
    rw [e1, e2] at h3
    exact h3
  generalize e / 40 = u at *
  generalize e % 40 = v at *
  obtain ⟨y1, y2, y3, y4, y5⟩ := n2
  -- no height beyond
  have hbl : ∀ q : Nat, q < 40 → (0 < S.sd3 a b q → S.crs a b u q) → S.sd3 a b q ≤ S.sd3 a b v := by
    intro q hq hx
    rcases Int.lt_or_le (S.sd3 a b v) (S.sd3 a b q) with z | z
    · exfalso
      have h := (code u q hu hq (hx (by omega))).1
      have p1 := Int.mul_lt_mul_of_pos_right z (show 0 < -S.sd3 a b u * -S.sd3 a b u by exact Int.mul_pos (by omega) (by omega))
      have r1 : S.sd3 a b q * (-S.sd3 a b u) * (S.sd3 a b v + (-S.sd3 a b u)) = S.sd3 a b q * (-S.sd3 a b u) * S.sd3 a b v + S.sd3 a b q * (-S.sd3 a b u * -S.sd3 a b u) := by grind
      have r2 : S.sd3 a b v * (-S.sd3 a b u) * (S.sd3 a b q + (-S.sd3 a b u)) = S.sd3 a b q * (-S.sd3 a b u) * S.sd3 a b v + S.sd3 a b v * (-S.sd3 a b u * -S.sd3 a b u) := by grind
      omega
    · exact z
  have hbr : ∀ q : Nat, q < 40 → (S.sd3 a b q < 0 → S.crs a b q v) → S.sd3 a b u ≤ S.sd3 a b q := by
    intro q hq hx
    rcases Int.lt_or_le (S.sd3 a b q) (S.sd3 a b u) with z | z
    · exfalso
      have h := (code q v hq hv (hx (by omega))).1
      have p1 := Int.mul_lt_mul_of_pos_right (show -S.sd3 a b u < -S.sd3 a b q by omega) (show 0 < S.sd3 a b v * S.sd3 a b v by exact Int.mul_pos (by omega) (by omega))
      have r1 : S.sd3 a b v * (-S.sd3 a b q) * (S.sd3 a b v + (-S.sd3 a b u)) = S.sd3 a b v * (-S.sd3 a b q) * (-S.sd3 a b u) + -S.sd3 a b q * (S.sd3 a b v * S.sd3 a b v) := by grind
      have r2 : S.sd3 a b v * (-S.sd3 a b u) * (S.sd3 a b v + (-S.sd3 a b q)) = S.sd3 a b v * (-S.sd3 a b q) * (-S.sd3 a b u) + -S.sd3 a b u * (S.sd3 a b v * S.sd3 a b v) := by grind
      omega
    · exact z
  have ti := S.ta_id a b u v c
  have tpos := Int.mul_pos hsq g4
  have cl : S.sd3 a b c < S.sd3 a b v := by
    rcases Int.lt_or_eq_of_le (hbl c c4 x1) with z | z
    · exact z
    · exfalso
      have h := (code u c hu c4 (x1 (by omega))).2 z rfl
      rw [z] at ti h
      have r1 : (S.ta a b v - S.ta a b u) * (S.sd3 a b v - S.sd3 a b u) - (S.sd3 a b v - S.sd3 a b u) * (S.ta a b c - S.ta a b u) = (S.sd3 a b v - S.sd3 a b u) * (S.ta a b v - S.ta a b c) := by grind
      rw [r1] at ti
      have lt := mul_pos_l (a := S.sd3 a b v - S.sd3 a b u) (by omega) (show 0 < _ * (S.ta a b v - S.ta a b c) by omega)
      have r2 : -(S.sd3 a b v * S.ta a b u + (-S.sd3 a b u) * S.ta a b c) * (S.sd3 a b v + (-S.sd3 a b u)) - -(S.sd3 a b v * S.ta a b u + (-S.sd3 a b u) * S.ta a b v) * (S.sd3 a b v + (-S.sd3 a b u)) = (S.sd3 a b v + (-S.sd3 a b u)) * ((-S.sd3 a b u) * (S.ta a b v - S.ta a b c)) := by grind
      have p2 := Int.mul_pos (show 0 < S.sd3 a b v + (-S.sd3 a b u) by omega) (Int.mul_pos (show 0 < -S.sd3 a b u by omega) lt)
      omega
  have cr : S.sd3 a b u < S.sd3 a b c := by
    rcases Int.lt_or_eq_of_le (hbr c c4 x2) with z | z
    · exact z
    · exfalso
      have h := (code c v c4 hv (x2 (by omega))).2 rfl z.symm
      rw [← z] at ti h
      rw [Int.sub_self, Int.mul_zero] at ti
      have r1 : (0 : Int) - (S.sd3 a b v - S.sd3 a b u) * (S.ta a b c - S.ta a b u) = (S.sd3 a b v - S.sd3 a b u) * (S.ta a b u - S.ta a b c) := by grind
      rw [r1] at ti
      have lt := mul_pos_l (a := S.sd3 a b v - S.sd3 a b u) (by omega) (show 0 < _ * (S.ta a b u - S.ta a b c) by omega)
      have r2 : -(S.sd3 a b v * S.ta a b c + (-S.sd3 a b u) * S.ta a b v) * (S.sd3 a b v + (-S.sd3 a b u)) - -(S.sd3 a b v * S.ta a b u + (-S.sd3 a b u) * S.ta a b v) * (S.sd3 a b v + (-S.sd3 a b u)) = (S.sd3 a b v + (-S.sd3 a b u)) * (S.sd3 a b v * (S.ta a b u - S.ta a b c)) := by grind
      have p2 := Int.mul_pos (show 0 < S.sd3 a b v + (-S.sd3 a b u) by omega) (Int.mul_pos y3 lt)
      omega
  have dl := hbl d d4 x3
  have dr := hbr d d4 x4
  refine ⟨u, v, c, d, ⟨hu, hv, c4, d4⟩, ⟨y1, y2, y3, y4, y5⟩, f1, f2, ?_⟩
  have e4 := S.sd_4 u v c d
  have es := S.sd_4s a b u v c d
  rw [St.U_4]
  unfold St.liS
  rw [zab_n (show S.sd3 a b u ≤ 0 by omega), zab_p (show 0 ≤ S.sd3 a b v by omega)]
  have A1 := g4
  have A2 := g5
  generalize S.sd3 a b u = su at *
  generalize S.sd3 a b v = sv at *
  generalize S.sd3 a b c = sc at *
  generalize S.sd3 a b d = sd at *
  generalize S.sd3 d v c = B2 at *
  generalize S.sd3 u d c = B1 at *
  generalize S.sd3 v u d = a2 at *
  generalize S.sd3 u v c = a1 at *
  have n1 : B2 * -su = -(B2 * su) := Int.mul_neg _ _
  rcases Int.le_total 0 sc with c0 | c0 <;> rcases Int.le_total 0 sd with d0 | d0
  · rw [zab_p c0, zab_p d0]
    have B2p : 0 < B2 := by
      rcases Int.lt_or_le 0 B2 with z | z
      · exact z
      · exfalso
        have p1 := Int.mul_lt_mul_of_pos_left cl A2
        have p2 := Int.mul_le_mul_of_nonneg_left dl (show 0 ≤ a1 by omega)
        have p3 := Int.mul_nonneg_of_nonpos_of_nonpos z (show su ≤ 0 by omega)
        have p4 := Int.mul_le_mul_of_nonneg_right (show a1 + a2 ≤ B1 by omega) (show 0 ≤ sv by omega)
        rw [Int.add_mul] at p4
        omega
    have := Int.mul_neg_of_pos_of_neg B2p y2
    omega
  · rw [zab_p c0, zab_n d0]
    have n2 : a1 * -sd = -(a1 * sd) := Int.mul_neg _ _
    rcases Int.lt_or_le 0 (B1 * sv - a2 * sc) with z | z
    · omega
    · exfalso
      have p1 := Int.mul_lt_mul_of_pos_left cl A2
      have b1 : B1 < a2 := by
        rcases Int.lt_or_le B1 a2 with t | t
        · exact t
        · have := Int.mul_le_mul_of_nonneg_right t (show 0 ≤ sv by omega); omega
      have p2 := Int.mul_le_mul_of_nonneg_left dr (show 0 ≤ a1 by omega)
      have b2 : B2 ≤ a1 := by
        rcases Int.lt_or_le a1 B2 with t | t
        · have := Int.mul_lt_mul_of_pos_right t (show 0 < -su by omega)
          rw [Int.mul_neg, Int.mul_neg] at this
          omega
        · exact t
      omega
  · rw [zab_n c0, zab_p d0]
    have n2 : a2 * -sc = -(a2 * sc) := Int.mul_neg _ _
    rcases Int.lt_or_le 0 (B1 * sv - a1 * sd) with z | z
    · omega
    · exfalso
      have p1 := Int.mul_lt_mul_of_pos_left cr A2
      have b2 : B2 < a2 := by
        rcases Int.lt_or_le B2 a2 with t | t
        · exact t
        · have := Int.mul_le_mul_of_nonneg_right t (show 0 ≤ -su by omega)
          rw [Int.mul_neg, Int.mul_neg] at this
          omega
      have p2 := Int.mul_le_mul_of_nonneg_left dl (show 0 ≤ a1 by omega)
      have b1 : B1 ≤ a1 := by
        rcases Int.lt_or_le a1 B1 with t | t
        · have := Int.mul_lt_mul_of_pos_right t (show 0 < sv by omega)
          omega
        · exact t
      omega
  · rw [zab_n c0, zab_n d0]
    have n2 : a2 * -sc = -(a2 * sc) := Int.mul_neg _ _
    have n3 : a1 * -sd = -(a1 * sd) := Int.mul_neg _ _
    have B1p : 0 < B1 := by
      rcases Int.lt_or_le 0 B1 with z | z
      · exact z
      · exfalso
        have p1 := Int.mul_lt_mul_of_pos_left cr A2
        have p2 := Int.mul_le_mul_of_nonneg_left dr (show 0 ≤ a1 by omega)
        have p3 := Int.mul_nonpos_of_nonpos_of_nonneg z (show 0 ≤ sv by omega)
        have p4 := Int.mul_le_mul_of_nonneg_right (show a1 + a2 ≤ B2 by omega) (show 0 ≤ -su by omega)
        rw [Int.add_mul, Int.mul_neg, Int.mul_neg, Int.mul_neg] at p4
        omega
    have := Int.mul_pos B1p y3
    omega
