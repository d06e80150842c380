/-! WHERE NO EDGE joins a and b, an edge crosses their line. By hand. -/
theorem St.ta_dot (S : St) (a b v : Nat) : S.sq a b * S.dot a b v = (S.ta a b a - S.ta a b v) * (S.ta a b b - S.ta a b v) + S.sd3 a b v * S.sd3 a b v := by
  unfold St.sq St.dot St.ta St.sd3 St.sd
  grind
theorem St.ta_len (S : St) (a b : Nat) : S.ta a b b - S.ta a b a = S.sq a b := by
  unfold St.sq St.ta
  grind
theorem St.ta_pos (S : St) (a b v : Nat) : S.sq a b * (S.xs v - S.xs a) = (S.ta a b v - S.ta a b a) * (S.xs b - S.xs a) - S.sd3 a b v * (S.ys b - S.ys a) ∧ S.sq a b * (S.ys v - S.ys a) = (S.ta a b v - S.ta a b a) * (S.ys b - S.ys a) + S.sd3 a b v * (S.xs b - S.xs a) := by
  unfold St.sq St.ta St.sd3 St.sd
  constructor <;> grind
theorem St.ta_mix (S : St) (a b v x y : Nat) (h : S.sd3 a b v = 0) : (S.ta a b v - S.ta a b a) * S.sd3 x y b = (S.ta a b v - S.ta a b b) * S.sd3 x y a + (S.ta a b b - S.ta a b a) * S.sd3 x y v := by
  obtain ⟨e1, e2⟩ := S.ta_pos a b v
  have e3 := S.ta_len a b
  rw [h, Int.zero_mul] at e1 e2
  unfold St.sd3 St.sd
  grind
/-- an edge from a along the line to b goes to b -/
theorem St.ray {S : St} (hG : S.Geo) {a b v : Nat} (ha : a < 40) (hb : b < 40) (hv : v < 40) (sa : S.has a) (sb : S.has b) (hab : a ≠ b) (hE : S.E a v ∨ S.E v a) (h0 : S.sd3 a b v = 0) (hf : 0 < S.ta a b v - S.ta a b a) (hno : ∀ q : Nat, q < 40 → ¬ (S.has q ∧ S.betw a b q)) : v = b := by
  have hsq : 0 < S.sq a b := by have := St.sq_pos hG.2.1 ha hb sa sb hab; omega
  have sv : S.has v := hE.elim (fun z => (St.E_has hG.PM ha hv z).2) (fun z => (St.E_has hG.PM hv ha z).1)
  have el := S.ta_len a b
  rcases Int.lt_trichotomy (S.ta a b v) (S.ta a b b) with c | c | c
  · exfalso
    have e := S.ta_dot a b v
    rw [h0, Int.zero_mul, Int.add_zero] at e
    have m := Int.mul_neg_of_neg_of_pos (show S.ta a b a - S.ta a b v < 0 by omega) (show 0 < S.ta a b b - S.ta a b v by omega)
    refine hno v hv ⟨sv, h0, ?_⟩
    rcases Int.lt_or_le (S.dot a b v) 0 with z | z
    · exact z
    · have := Int.mul_nonneg (show 0 ≤ S.sq a b by omega) z; omega
  · obtain ⟨e1, e2⟩ := S.ta_pos a b v
    rw [h0, Int.zero_mul, c, el] at e1 e2
    have x1 : S.xs v - S.xs a = S.xs b - S.xs a := Int.eq_of_mul_eq_mul_left (show S.sq a b ≠ 0 by omega) (by omega)
    have y1 : S.ys v - S.ys a = S.ys b - S.ys a := Int.eq_of_mul_eq_mul_left (show S.sq a b ≠ 0 by omega) (by omega)
    exact hG.2.1 v b hv hb sv sb (by omega) (by omega)
  · -- b lies on that edge
    have main : ∀ x y w : Nat, x < 40 → y < 40 → w < 40 → ((x = a ∧ y = v) ∨ (x = v ∧ y = a)) → S.ap (x * 40 + y) = (w : Int) → v = b := by
      intro x y w hx hy hw hxy hz
      obtain ⟨-, -, sw, g⟩ := hG.2.2.2.2.1 x y w hx hy hw hz
      have r1 : S.sd3 y w x = S.sd3 x y w := St.sd3_rot S x y w
      have r2 : S.sd3 w x y = S.sd3 x y w := (St.sd3_rot S w x y).symm
      have z0 : S.sd3 x y b = 0 := by
        have e1 : S.sd3 a v b = -S.sd3 a b v := by unfold St.sd3 St.sd; grind
        have e2 : S.sd3 v a b = S.sd3 a b v := (St.sd3_rot S v a b).symm
        rcases hxy with ⟨q1, q2⟩ | ⟨q1, q2⟩ <;> rw [q1, q2] <;> omega
      have p1 : 0 ≤ S.sd3 y w b := by
        have e := S.ta_mix a b v y w h0
        rcases hxy with ⟨q1, q2⟩ | ⟨q1, q2⟩
        · subst q1; subst q2
          rw [r1, St.sd3_self3, Int.mul_zero] at e
          have := Int.mul_pos (show 0 < S.ta x b y - S.ta x b b by omega) g
          exact mul_nn_l hf (by omega)
        · subst q1; subst q2
          rw [r1, St.sd3_self3, Int.mul_zero] at e
          have := Int.mul_pos (show 0 < S.ta y b b - S.ta y b y by omega) g
          exact mul_nn_l hf (by omega)
      have p2 : 0 ≤ S.sd3 w x b := by
        have e := S.ta_mix a b v w x h0
        rcases hxy with ⟨q1, q2⟩ | ⟨q1, q2⟩
        · subst q1; subst q2
          rw [r2, St.sd3_self2, Int.mul_zero] at e
          have := Int.mul_pos (show 0 < S.ta x b b - S.ta x b x by omega) g
          exact mul_nn_l hf (by omega)
        · subst q1; subst q2
          rw [r2, St.sd3_self2, Int.mul_zero] at e
          have := Int.mul_pos (show 0 < S.ta y b x - S.ta y b b by omega) g
          exact mul_nn_l hf (by omega)
      rcases St.alone hG hx hy hw hz hb sb (by omega) p1 p2 with z | z | z
      · rcases hxy with ⟨q1, q2⟩ | ⟨q1, q2⟩
        · omega
        · omega
      · rcases hxy with ⟨q1, q2⟩ | ⟨q1, q2⟩
        · omega
        · omega
      · exfalso
        rw [z] at z0
        omega
    rcases hE with z | z
    · have b1 := hG.2.2.1 (a * 40 + v) (by omega)
      unfold St.E at z
      obtain ⟨w, hw⟩ := Int.eq_ofNat_of_zero_le (show 0 ≤ S.ap (a * 40 + v) by omega)
      exact main a v w ha hv (by omega) (Or.inl ⟨rfl, rfl⟩) hw
    · have b1 := hG.2.2.1 (v * 40 + a) (by omega)
      unfold St.E at z
      obtain ⟨w, hw⟩ := Int.eq_ofNat_of_zero_le (show 0 ≤ S.ap (v * 40 + a) by omega)
      exact main v a w hv ha (by omega) (Or.inr ⟨rfl, rfl⟩) hw
/-- along the border -/
theorem St.side_E {S : St} (hG : S.Geo) {a b : Nat} (ha : a < 40) (hb : b < 40) (sa : S.has a) (sb : S.has b) (hab : a ≠ b) (ho : S.onside a b) (hno : ∀ q : Nat, q < 40 → ¬ (S.has q ∧ S.betw a b q)) : S.E a b := by
  obtain ⟨v, hv, v1, v2⟩ := hG.2.2.2.2.2.2.2.1 a ha sa (by unfold St.onside at ho; unfold St.onB; omega)
  have o := hG.2.2.2.2.2.2.1 a v ha hv v1 v2
  have ba := hG.1 a ha
  have bb := hG.1 b hb
  have bv := hG.1 v hv
  have k : S.sd3 a b v = 0 ∧ 0 < S.ta a b v - S.ta a b a := by
    unfold St.onside at ho o
    have r : S.ta a b v - S.ta a b a = (S.xs b - S.xs a) * (S.xs v - S.xs a) + (S.ys b - S.ys a) * (S.ys v - S.ys a) := by unfold St.ta; grind
    rw [r]
    unfold St.sd3 St.sd
    rcases ho with ⟨a1, a2, a3⟩ | ⟨a1, a2, a3⟩ | ⟨a1, a2, a3⟩ | ⟨a1, a2, a3⟩ <;> rcases o with ⟨c1, c2, c3⟩ | ⟨c1, c2, c3⟩ | ⟨c1, c2, c3⟩ | ⟨c1, c2, c3⟩ <;> first | (exfalso; omega) | skip
    · rw [show S.ys b - S.ys a = 0 by omega, show S.ys v - S.ys a = 0 by omega]
      have := Int.mul_pos (show 0 < S.xs b - S.xs a by omega) (show 0 < S.xs v - S.xs a by omega)
      constructor <;> simp <;> omega
    · rw [show S.xs b - S.xs a = 0 by omega, show S.xs v - S.xs a = 0 by omega]
      have := Int.mul_pos (show 0 < S.ys b - S.ys a by omega) (show 0 < S.ys v - S.ys a by omega)
      constructor <;> simp <;> omega
    · rw [show S.ys b - S.ys a = 0 by omega, show S.ys v - S.ys a = 0 by omega]
      have := Int.mul_pos_of_neg_of_neg (show S.xs b - S.xs a < 0 by omega) (show S.xs v - S.xs a < 0 by omega)
      constructor <;> simp <;> omega
    · rw [show S.xs b - S.xs a = 0 by omega, show S.xs v - S.xs a = 0 by omega]
      have := Int.mul_pos_of_neg_of_neg (show S.ys b - S.ys a < 0 by omega) (show S.ys v - S.ys a < 0 by omega)
      constructor <;> simp <;> omega
  have := St.ray hG ha hb hv sa sb hab (Or.inl v1) k.1 k.2 hno
  rw [← this]
  exact v1
theorem St.crs_ex {S : St} (hG : S.Geo) {a b : Nat} (ha : a < 40) (hb : b < 40) (sa : S.has a) (sb : S.has b) (hab : a ≠ b) (hno : ∀ q : Nat, q < 40 → ¬ (S.has q ∧ S.betw a b q)) (n1 : ¬ S.E a b) (n2 : ¬ S.E b a) : ∃ u v : Nat, u < 40 ∧ v < 40 ∧ S.crs a b u v := by
  have hsq : 0 < S.sq a b := by have := St.sq_pos hG.2.1 ha hb sa sb hab; omega
  have el := S.ta_len a b
  have no1 : ¬ S.onside a b := fun z => n1 (St.side_E hG ha hb sa sb hab z hno)
  have no2 : ¬ S.onside b a := fun z => n2 (St.side_E hG hb ha sb sa (fun q => hab q.symm) z (fun q hq ⟨q1, q2, q3⟩ => hno q hq ⟨q1, by have := S.sd3_swap a b q; omega, by unfold St.dot at *; grind⟩))
  have ba := hG.1 a ha
  have bb := hG.1 b hb
  have hne : ¬ (S.xs b - S.xs a = 0 ∧ S.ys b - S.ys a = 0) := fun z => hab (hG.2.1 a b ha hb sa sb (by omega) (by omega))
  obtain ⟨X, Y, Z, hg, -, hsg, hi⟩ := St.near_ex hG.2.1 (x := S.xs a) (y := S.ys a) (s := 1) (p := S.xs b - S.xs a) (q := S.ys b - S.ys a) (p' := -(S.ys b - S.ys a)) (q' := S.xs b - S.xs a) (by decide) (sq_nz hne)
  have hin : inner X Y Z := by
    unfold St.onside at no1 no2
    exact hi (by omega) (by omega) (by omega) (by omega)
  obtain ⟨v, c, hv, hc, hap, hT⟩ := St.star hG ha sa hg hin (fun u v hu hv hz => (hsg u v hu hv).1 (by rw [St.Hs_1]; exact hz))
  obtain ⟨-, sv, sc, g⟩ := hG.2.2.2.2.1 a v c ha hv hc hap
  obtain ⟨k1, k2⟩ := hG.2.2.2.1 a v c ha hv hc hap
  have Eav : S.E a v := by unfold St.E; omega
  have Eca : S.E c a := by unfold St.E; omega
  have Evc : S.E v c := by unfold St.E; omega
  have h1 := hsg a v ha hv
  have h2 := hsg c a hc ha
  rw [St.Hs_1] at h1 h2
  have z1 : S.sd a v (S.xs a) (S.ys a) = 0 := St.sd3_self3 S a v
  have z2 : S.sd c a (S.xs a) (S.ys a) = 0 := St.sd3_self2 S c a
  have l1 : S.Ls a v (S.xs b - S.xs a) (S.ys b - S.ys a) = -S.sd3 a b v := by unfold St.Ls St.sd3 St.sd; grind
  have l2 : S.Ls c a (S.xs b - S.xs a) (S.ys b - S.ys a) = S.sd3 a b c := by unfold St.Ls St.sd3 St.sd; grind
  have t1 : S.sd3 a b v ≤ 0 := by
    rcases Int.lt_or_le 0 (S.sd3 a b v) with z | z
    · have := h1.2.2.2 z1 (by omega)
      have := hT.1
      omega
    · exact z
  have t2 : 0 ≤ S.sd3 a b c := by
    rcases Int.lt_or_le (S.sd3 a b c) 0 with z | z
    · have := h2.2.2.2 z2 (by omega)
      have := hT.2.2
      omega
    · exact z
  -- along an edge
  have dir : ∀ x y : Nat, S.sd3 a b x = 0 → S.sq a b * S.sd3 a x y = (S.ta a b x - S.ta a b a) * S.sd3 a b y := by
    intro x y h
    have e := S.ta_id a b a x y
    rw [h, St.sd3_self3] at e
    rw [e]
    grind
  have t1' : S.sd3 a b v < 0 := by
    rcases Int.lt_or_eq_of_le t1 with z | z
    · exact z
    · exfalso
      have e := dir v c z
      have := Int.mul_pos hsq g
      have f : 0 < S.ta a b v - S.ta a b a := by
        rcases Int.lt_or_le 0 (S.ta a b v - S.ta a b a) with y | y
        · exact y
        · have := Int.mul_nonpos_of_nonpos_of_nonneg y t2; omega
      have := St.ray hG ha hb hv sa sb hab (Or.inl Eav) z f hno
      rw [this] at Eav
      exact n1 Eav
  have t2' : 0 < S.sd3 a b c := by
    rcases Int.lt_or_eq_of_le t2 with z | z
    · exact z
    · exfalso
      have e := dir c v z.symm
      have r : S.sd3 a c v = -S.sd3 a v c := by unfold St.sd3 St.sd; grind
      rw [r, Int.mul_neg] at e
      have := Int.mul_pos hsq g
      have f : 0 < S.ta a b c - S.ta a b a := by
        rcases Int.lt_or_le 0 (S.ta a b c - S.ta a b a) with y | y
        · exact y
        · have := Int.mul_nonneg_of_nonpos_of_nonpos y t1; omega
      have := St.ray hG ha hb hc sa sb hab (Or.inr Eca) z.symm f hno
      rw [this] at Eca
      exact n2 Eca
  have r1 : S.sd3 v c a = S.sd3 a v c := St.sd3_rot S a v c
  refine ⟨v, c, hv, hc, Evc, t1', t2', by omega, ?_⟩
  rcases Int.lt_or_le (S.sd3 v c b) 0 with z | z
  · exact z
  · exfalso
    have e1 : S.sd3 a v b = -S.sd3 a b v := by unfold St.sd3 St.sd; grind
    have e2 : S.sd3 c a b = S.sd3 a b c := (St.sd3_rot S c a b).symm
    rcases St.alone hG ha hv hc hap hb sb (by omega) z (by omega) with q | q | q
    · exact hab q.symm
    · rw [q, St.sd3_self2] at t1'; omega
    · rw [q, St.sd3_self2] at t2'; omega
