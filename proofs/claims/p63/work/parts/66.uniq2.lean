/-! ONE MESH ALONE: two that are settled, over the same points and fixed edges, are the same. By hand. -/
theorem St.baryH (S : St) (a b c u v : Nat) (x y s : Int) : S.Hs b c x y s * S.sd3 a u v + S.Hs c a x y s * S.sd3 b u v + S.Hs a b x y s * S.sd3 c u v = S.sd3 a b c * S.Hs u v x y s := by
  unfold St.Hs St.sd3 St.sd
  grind
theorem St.U_half (S : St) (L : Nat → Int) (a b c d e f : Nat) (x y s : Int) : S.Hs e f x y s * S.U L a b c d + S.Hs f d x y s * S.U L a b c e + S.Hs d e x y s * S.U L a b c f = S.sd3 d e f * (S.Hs b c x y s * L a + S.Hs c a x y s * L b + S.Hs a b x y s * L c) - S.sd3 a b c * (S.Hs e f x y s * L d + S.Hs f d x y s * L e + S.Hs d e x y s * L f) := by
  have b1 := S.baryH d e f b c x y s
  have b2 := S.baryH d e f c a x y s
  have b3 := S.baryH d e f a b x y s
  unfold St.U
  generalize S.Hs e f x y s = h1 at *
  generalize S.Hs f d x y s = h2 at *
  generalize S.Hs d e x y s = h3 at *
  generalize S.Hs b c x y s = k1 at *
  generalize S.Hs c a x y s = k2 at *
  generalize S.Hs a b x y s = k3 at *
  generalize S.sd3 d e f = A at *
  generalize S.sd3 a b c = B at *
  generalize S.sd3 d b c = m1 at *
  generalize S.sd3 e b c = m2 at *
  generalize S.sd3 f b c = m3 at *
  generalize S.sd3 d c a = m4 at *
  generalize S.sd3 e c a = m5 at *
  generalize S.sd3 f c a = m6 at *
  generalize S.sd3 d a b = m7 at *
  generalize S.sd3 e a b = m8 at *
  generalize S.sd3 f a b = m9 at *
  grind
theorem St.Z_id (S : St) (u v q : Nat) (x y s : Int) : S.Hs q v x y s * S.xs u - S.Hs q u x y s * S.xs v = S.Hs u v x y s * S.xs q - S.sd3 u v q * x ∧ S.Hs q v x y s * S.ys u - S.Hs q u x y s * S.ys v = S.Hs u v x y s * S.ys q - S.sd3 u v q * y ∧ S.Hs q v x y s - S.Hs q u x y s = S.Hs u v x y s - S.sd3 u v q * s := by
  unfold St.Hs St.sd3 St.sd
  refine ⟨?_, ?_, ?_⟩ <;> grind
theorem St.Hs_comb (S : St) (i j q : Nat) (al be x y s : Int) : S.Hs i j (al * S.xs q - be * x) (al * S.ys q - be * y) (al - be * s) = al * S.sd3 i j q - be * S.Hs i j x y s := by
  unfold St.Hs St.sd3 St.sd
  grind
/-- within a triangle nothing fixed lies on the way to a corner -/
theorem St.clear_of {S : St} (hM : S.Msh) {x y s : Int} (hg : S.gen x y s) (hin : inner x y s) {a b c q : Nat} (ha : a < 40) (hb : b < 40) (hc : c < 40) (hap : S.ap (a * 40 + b) = (c : Int)) (hT : S.inT x y s a b c) (hq : q = a ∨ q = b ∨ q = c) : S.clear x y s q := by
  intro u v hu hv hbo ⟨h1, h2, h3, h4⟩
  have hG := hM.1
  obtain ⟨-, su, sv, hE⟩ := hM.2.1.1 u v hu hv hbo
  obtain ⟨sa, sb, sc, g⟩ := hG.2.2.2.2.1 a b c ha hb hc hap
  have q4 : q < 40 := by omega
  have hs := hg.1
  obtain ⟨zx, zy, zs⟩ := S.Z_id u v q x y s
  have o1 : ∀ i j : Nat, S.Hs i j (S.Hs q v x y s * S.xs u - S.Hs q u x y s * S.xs v) (S.Hs q v x y s * S.ys u - S.Hs q u x y s * S.ys v) (S.Hs q v x y s - S.Hs q u x y s) = S.Hs q v x y s * S.sd3 i j u - S.Hs q u x y s * S.sd3 i j v := fun i j => St.Hs_mix S i j v u _ _
  have o2 : ∀ i j : Nat, S.Hs i j (S.Hs q v x y s * S.xs u - S.Hs q u x y s * S.xs v) (S.Hs q v x y s * S.ys u - S.Hs q u x y s * S.ys v) (S.Hs q v x y s - S.Hs q u x y s) = S.Hs u v x y s * S.sd3 i j q - S.sd3 u v q * S.Hs i j x y s := fun i j => by
    rw [zx, zy, zs]
    exact St.Hs_comb S i j q _ _ x y s
  have huv : u ≠ v := fun z => by rw [z] at h3; omega
  have hne : ¬ (-(S.ys v - S.ys u) = 0 ∧ (S.xs v - S.xs u) = 0) := fun z => huv (hG.2.1 u v hu hv su sv (by omega) (by omega))
  have hne2 : ¬ ((S.ys v - S.ys u) = 0 ∧ -(S.xs v - S.xs u) = 0) := fun z => huv (hG.2.1 u v hu hv su sv (by omega) (by omega))
  have bq := hG.1 q q4
  have hZ : inner (S.Hs q v x y s * S.xs u - S.Hs q u x y s * S.xs v) (S.Hs q v x y s * S.ys u - S.Hs q u x y s * S.ys v) (S.Hs q v x y s - S.Hs q u x y s) := by
    rw [zx, zy, zs]
    obtain ⟨i1, i2, i3, i4⟩ := hin
    have lo : ∀ (w t : Int), -1000 ≤ w → -1000 * s < t → -1000 * (S.Hs u v x y s - S.sd3 u v q * s) < S.Hs u v x y s * w - S.sd3 u v q * t := by
      intro w t w1 t1
      have m1 := Int.mul_nonneg (show 0 ≤ S.Hs u v x y s by omega) (show 0 ≤ w - -1000 by omega)
      have m2 := Int.mul_neg_of_neg_of_pos h2 (show 0 < t - -1000 * s by omega)
      have r1 : S.Hs u v x y s * (w - -1000) = S.Hs u v x y s * w + 1000 * S.Hs u v x y s := by grind
      have r2 : S.sd3 u v q * (t - -1000 * s) = S.sd3 u v q * t + 1000 * (S.sd3 u v q * s) := by grind
      omega
    have hi : ∀ (w t : Int), w ≤ 1000 → t < 1000 * s → S.Hs u v x y s * w - S.sd3 u v q * t < 1000 * (S.Hs u v x y s - S.sd3 u v q * s) := by
      intro w t w1 t1
      have m1 := Int.mul_nonneg (show 0 ≤ S.Hs u v x y s by omega) (show 0 ≤ 1000 - w by omega)
      have m2 := Int.mul_neg_of_neg_of_pos h2 (show 0 < 1000 * s - t by omega)
      have r1 : S.Hs u v x y s * (1000 - w) = 1000 * S.Hs u v x y s - S.Hs u v x y s * w := by grind
      have r2 : S.sd3 u v q * (1000 * s - t) = 1000 * (S.sd3 u v q * s) - S.sd3 u v q * t := by grind
      omega
    exact ⟨lo _ _ (by omega) i1, hi _ _ (by omega) i2, lo _ _ (by omega) i3, hi _ _ (by omega) i4⟩
  -- q is a corner, so behind no side
  have cor : 0 ≤ S.sd3 a b q ∧ 0 ≤ S.sd3 b c q ∧ 0 ≤ S.sd3 c a q := by
    have r1 : S.sd3 b c a = S.sd3 a b c := St.sd3_rot S a b c
    have r2 : S.sd3 c a b = S.sd3 a b c := (St.sd3_rot S c a b).symm
    rcases hq with z | z | z
    · rw [z, St.sd3_self3, St.sd3_self2]; omega
    · rw [z, St.sd3_self2, St.sd3_self3]; omega
    · rw [z, St.sd3_self2, St.sd3_self3]; omega
  have inA : ∀ i j : Nat, 0 ≤ S.sd3 i j q → 0 < S.Hs i j x y s → 0 < S.Hs u v x y s * S.sd3 i j q - S.sd3 u v q * S.Hs i j x y s := by
    intro i j m1 m2
    have := Int.mul_nonneg (show 0 ≤ S.Hs u v x y s by omega) m1
    have := Int.mul_neg_of_neg_of_pos h2 m2
    omega
  have sZ : 0 < S.Hs q v x y s - S.Hs q u x y s := by omega
  have sqp : 0 < S.sq v u := by have := St.sq_pos hG.2.1 hv hu sv su (fun z => huv z.symm); omega
  obtain ⟨t1, t2, t3⟩ := hT
  by_cases c0 : S.E u v
  · have b1 := hG.2.2.1 (u * 40 + v) (by omega)
    unfold St.E at c0
    obtain ⟨w, hw⟩ := Int.eq_ofNat_of_zero_le (show 0 ≤ S.ap (u * 40 + v) by omega)
    obtain ⟨-, -, -, gw⟩ := hG.2.2.2.2.1 u v w hu hv (by omega) hw
    obtain ⟨X, Y, Z, hg2, hi2, hs2, -⟩ := St.near_ex hG.2.1 (p := -(S.ys v - S.ys u)) (q := S.xs v - S.xs u) (p' := -(S.xs v - S.xs u)) (q' := -(S.ys v - S.ys u)) sZ (sq_nz hne)
    have e1 : S.Ls u v (-(S.ys v - S.ys u)) (S.xs v - S.xs u) = S.sq v u := by unfold St.Ls St.sq; grind
    have in1 : S.inT X Y Z a b c := ⟨(hs2 a b ha hb).1 (by rw [o2]; exact inA _ _ cor.1 t1), (hs2 b c hb hc).1 (by rw [o2]; exact inA _ _ cor.2.1 t2), (hs2 c a hc ha).1 (by rw [o2]; exact inA _ _ cor.2.2 t3)⟩
    have in2 : S.inT X Y Z u v w := by
      refine ⟨(hs2 u v hu hv).2.2.1 ?_ (by omega), (hs2 v w hv (by omega)).1 ?_, (hs2 w u (by omega) hu).1 ?_⟩
      · rw [o1, St.sd3_self3, St.sd3_self2]; simp
      · rw [o1, St.sd3_self3, show S.sd3 v w u = S.sd3 u v w from St.sd3_rot S u v w, Int.mul_zero]
        have := Int.mul_pos h4 gw
        omega
      · rw [o1, St.sd3_self2, show S.sd3 w u v = S.sd3 u v w from (St.sd3_rot S w u v).symm, Int.mul_zero]
        have := Int.mul_neg_of_neg_of_pos h3 gw
        omega
    have hno : ¬ (q = u ∨ q = v ∨ q = w) := by
      rintro (z | z | z)
      · rw [z, St.sd3_self3] at h2; omega
      · rw [z, St.sd3_self2] at h2; omega
      · rw [z] at h2; omega
    rcases St.cover1 hG.2.2.1 hG.2.2.2.1 hG.2.2.2.2.1 hG.2.2.2.2.2.1 hg2 (hi2 hZ) ha hb hc hu hv (by omega) hap hw in1 in2 with ⟨z1, z2, z3⟩ | ⟨z1, z2, z3⟩ | ⟨z1, z2, z3⟩ <;> exact hno (by omega)
  · have c1 : S.E v u := hE.resolve_left c0
    have b1 := hG.2.2.1 (v * 40 + u) (by omega)
    unfold St.E at c1
    obtain ⟨w, hw⟩ := Int.eq_ofNat_of_zero_le (show 0 ≤ S.ap (v * 40 + u) by omega)
    obtain ⟨-, -, -, gw⟩ := hG.2.2.2.2.1 v u w hv hu (by omega) hw
    obtain ⟨X, Y, Z, hg2, hi2, hs2, -⟩ := St.near_ex hG.2.1 (p := S.ys v - S.ys u) (q := -(S.xs v - S.xs u)) (p' := - -(S.xs v - S.xs u)) (q' := S.ys v - S.ys u) sZ (sq_nz hne2)
    have e1 : S.Ls v u (S.ys v - S.ys u) (-(S.xs v - S.xs u)) = S.sq v u := by unfold St.Ls St.sq; grind
    have in1 : S.inT X Y Z a b c := ⟨(hs2 a b ha hb).1 (by rw [o2]; exact inA _ _ cor.1 t1), (hs2 b c hb hc).1 (by rw [o2]; exact inA _ _ cor.2.1 t2), (hs2 c a hc ha).1 (by rw [o2]; exact inA _ _ cor.2.2 t3)⟩
    have in2 : S.inT X Y Z v u w := by
      refine ⟨(hs2 v u hv hu).2.2.1 ?_ (by omega), (hs2 u w hu (by omega)).1 ?_, (hs2 w v (by omega) hv).1 ?_⟩
      · rw [o1, St.sd3_self3, St.sd3_self2]; simp
      · rw [o1, St.sd3_self3, show S.sd3 u w v = S.sd3 v u w from St.sd3_rot S v u w, Int.mul_zero]
        have := Int.mul_neg_of_neg_of_pos h3 gw
        omega
      · rw [o1, St.sd3_self2, show S.sd3 w v u = S.sd3 v u w from (St.sd3_rot S w v u).symm, Int.mul_zero]
        have := Int.mul_pos h4 gw
        omega
    have an := S.Hs_anti u v x y s
    rcases St.cover1 hG.2.2.1 hG.2.2.2.1 hG.2.2.2.2.1 hG.2.2.2.2.2.1 hg2 (hi2 hZ) ha hb hc hv hu (by omega) hap hw in1 in2 with ⟨z1, z2, z3⟩ | ⟨z1, z2, z3⟩ | ⟨z1, z2, z3⟩
    · rw [← z1, ← z2] at t1; omega
    · rw [← z1, ← z2] at t2; omega
    · rw [← z1, ← z2] at t3; omega
theorem St.goodL_eq {S T : St} (h1 : T.xs = S.xs) (h2 : T.ys = S.ys) (h3 : T.th = S.th) {L : Nat → Int} (k : S.goodL L) : T.goodL L := by
  have e : ∀ R : St, R.goodL L = (sM R.xs R.ys (fun _ => 0) (fun _ => 0) (fun _ => 0) (fun _ => 0) R.th 0 0 (fun _ => 0) (fun _ => 0) (fun _ => 0) (fun _ => 0) (fun _ => 0) (fun _ => 0) 0 0 (fun _ => 0) (fun _ => 0) (fun _ => 0) 0).goodL L := fun _ => rfl
  rw [e T, h1, h2, h3, ← e S]
  exact k
/-- each triangle of the one is one of the other -/
theorem St.uniq1 {S S' : St} (hM : S.Msh) (hM' : S'.Msh) (hD : S.Del) (hD' : S'.Del) (hx : S'.xs = S.xs) (hy : S'.ys = S.ys) (ht : S'.th = S.th) (hf : S'.fx = S.fx) {d e f : Nat} (hd : d < 40) (he : e < 40) (hf4 : f < 40) (hap : S'.ap (d * 40 + e) = (f : Int)) : S.ap (d * 40 + e) = (f : Int) := by
  obtain ⟨L, hL⟩ := St.goodL_ex hM.1
  have hL' := St.goodL_eq hx hy ht hL
  have eH : S'.Hs = S.Hs := by unfold St.Hs; rw [hx, hy]
  have e3 : S'.sd3 = S.sd3 := St.sd3_eq hx hy
  have eU : S'.U = S.U := by unfold St.U; rw [e3]
  have eh : ∀ p : Nat, S'.has p ↔ S.has p := fun p => by unfold St.has; rw [ht]
  have eb : ∀ u v : Nat, S'.bound u v ↔ S.bound u v := fun u v => by unfold St.bound; rw [hf]
  have eg : ∀ x y s : Int, S'.gen x y s ↔ S.gen x y s := fun x y s => by unfold St.gen St.has; rw [eH, hx, ht]
  have ec : ∀ (x y s : Int) (q : Nat), S'.clear x y s q ↔ S.clear x y s q := fun x y s q => by unfold St.clear St.bound; rw [eH, e3, hf]
  obtain ⟨sd, se, sf, g⟩ := hM'.1.2.2.2.2.1 d e f hd he hf4 hap
  rw [e3] at g
  rw [eh] at sd se sf
  have bd := hM.1.1 d hd
  have be := hM.1.1 e he
  have bf := hM.1.1 f hf4
  -- a place within
  obtain ⟨x, y, s, hg, hi, hs, -⟩ := St.near_ex hM.1.2.1 (x := S.xs d + S.xs e + S.xs f) (y := S.ys d + S.ys e + S.ys f) (s := 3) (p := 1) (q := 0) (p' := 0) (q' := 1) (by decide) (by decide)
  have cen : ∀ i j : Nat, S.Hs i j (S.xs d + S.xs e + S.xs f) (S.ys d + S.ys e + S.ys f) 3 = S.sd3 i j d + S.sd3 i j e + S.sd3 i j f := fun i j => by
    unfold St.Hs St.sd3 St.sd
    grind
  have r1 : S.sd3 e f d = S.sd3 d e f := St.sd3_rot S d e f
  have r2 : S.sd3 f d e = S.sd3 d e f := (St.sd3_rot S f d e).symm
  have hT : S.inT x y s d e f := by
    refine ⟨(hs d e hd he).1 ?_, (hs e f he hf4).1 ?_, (hs f d hf4 hd).1 ?_⟩
    · rw [cen, St.sd3_self3, St.sd3_self2]; omega
    · rw [cen, St.sd3_self3, St.sd3_self2]; omega
    · rw [cen, St.sd3_self3, St.sd3_self2]; omega
  have fx : ∀ K : Int, ¬ (S.xs d = K ∧ S.xs e = K ∧ S.xs f = K) := fun K z => by
    have : S.sd3 d e f = 0 := by unfold St.sd3 St.sd; rw [z.1, z.2.1, z.2.2]; simp
    omega
  have fy : ∀ K : Int, ¬ (S.ys d = K ∧ S.ys e = K ∧ S.ys f = K) := fun K z => by
    have : S.sd3 d e f = 0 := by unfold St.sd3 St.sd; rw [z.1, z.2.1, z.2.2]; simp
    omega
  have x1 := fx 1000
  have x2 := fx (-1000)
  have y1 := fy 1000
  have y2 := fy (-1000)
  have hin : inner x y s := hi ⟨by omega, by omega, by omega, by omega⟩
  obtain ⟨a, b, c, ha, hb, hc, hz, hT0⟩ := St.cover hM.1.2.2.1 hM.1.2.2.2.1 hM.1.2.2.2.2.1 hM.1.2.2.2.2.2.1 hg hin
  obtain ⟨sa, sb, sc, g0⟩ := hM.1.2.2.2.2.1 a b c ha hb hc hz
  have hg' := (eg x y s).mpr hg
  have hT' : S'.inT x y s d e f := by unfold St.inT; rw [eH]; exact hT
  have hT0' : S'.inT x y s a b c := by unfold St.inT; rw [eH]; exact hT0
  have k1 := fun q hq => (ec x y s q).mp (St.clear_of hM' hg' hin hd he hf4 hap hT' (q := q) hq)
  have k2 := fun q hq => (ec x y s q).mpr (St.clear_of hM hg hin ha hb hc hz hT0 (q := q) hq)
  have A1 := St.tri_neg hM hD hL hg hd sd (k1 d (Or.inl rfl)) ha hb hc hz hT0
  have A2 := St.tri_neg hM hD hL hg he se (k1 e (Or.inr (Or.inl rfl))) ha hb hc hz hT0
  have A3 := St.tri_neg hM hD hL hg hf4 sf (k1 f (Or.inr (Or.inr rfl))) ha hb hc hz hT0
  have B1 := (St.tri_neg hM' hD' hL' hg' ha ((eh a).mpr sa) (k2 a (Or.inl rfl)) hd he hf4 hap hT').1
  have B2 := (St.tri_neg hM' hD' hL' hg' hb ((eh b).mpr sb) (k2 b (Or.inr (Or.inl rfl))) hd he hf4 hap hT').1
  have B3 := (St.tri_neg hM' hD' hL' hg' hc ((eh c).mpr sc) (k2 c (Or.inr (Or.inr rfl))) hd he hf4 hap hT').1
  rw [eU] at B1 B2 B3
  have h1 := S.U_half L a b c d e f x y s
  have h2 := S.U_half L d e f a b c x y s
  obtain ⟨t1, t2, t3⟩ := hT
  obtain ⟨u1, u2, u3⟩ := hT0
  have np : ∀ p w : Int, 0 < p → w ≤ 0 → p * w ≤ 0 := fun p w q1 q2 => Int.mul_nonpos_of_nonneg_of_nonpos (by omega) q2
  have m1 := np _ _ t2 A1.1
  have m2 := np _ _ t3 A2.1
  have m3 := np _ _ t1 A3.1
  have m4 := np _ _ u2 B1
  have m5 := np _ _ u3 B2
  have m6 := np _ _ u1 B3
  have z1 : S.U L a b c d = 0 := (Int.mul_eq_zero.mp (show S.Hs e f x y s * S.U L a b c d = 0 by omega)).resolve_left (by omega)
  have z2 : S.U L a b c e = 0 := (Int.mul_eq_zero.mp (show S.Hs f d x y s * S.U L a b c e = 0 by omega)).resolve_left (by omega)
  have z3 : S.U L a b c f = 0 := (Int.mul_eq_zero.mp (show S.Hs d e x y s * S.U L a b c f = 0 by omega)).resolve_left (by omega)
  -- the same three corners
  have c1 : d = a ∨ d = b ∨ d = c := Classical.byContradiction (fun q => by have := A1.2 (by omega); omega)
  have c2 : e = a ∨ e = b ∨ e = c := Classical.byContradiction (fun q => by have := A2.2 (by omega); omega)
  have c3 : f = a ∨ f = b ∨ f = c := Classical.byContradiction (fun q => by have := A3.2 (by omega); omega)
  obtain ⟨n1, n2, n3⟩ := St.pos_ne g
  obtain ⟨w1, w2⟩ := hM.1.2.2.2.1 a b c ha hb hc hz
  have o1 : S.sd3 b a c = -S.sd3 a b c := St.sd3_swap S a b c
  have o2 : S.sd3 a c b = -S.sd3 a b c := by unfold St.sd3 St.sd; grind
  have o3 : S.sd3 c b a = -S.sd3 a b c := by unfold St.sd3 St.sd; grind
  rcases c1 with q1 | q1 | q1 <;> rcases c2 with q2 | q2 | q2 <;> rcases c3 with q3 | q3 | q3 <;> first | (exfalso; omega) | (rw [q1, q2, q3]; assumption) | (exfalso; rw [q1, q2, q3] at g; omega)
theorem St.uniq {S S' : St} (hM : S.Msh) (hM' : S'.Msh) (hD : S.Del) (hD' : S'.Del) (hx : S'.xs = S.xs) (hy : S'.ys = S.ys) (ht : S'.th = S.th) (hf : S'.fx = S.fx) : ∀ e : Nat, e < 1600 → S'.ap e = S.ap e := by
  intro e he
  have ee : e / 40 * 40 + e % 40 = e := by omega
  have b1 := hM.1.2.2.1 e he
  have b2 := hM'.1.2.2.1 e he
  rcases Int.lt_or_le (S'.ap e) 0 with z | z
  · rcases Int.lt_or_le (S.ap e) 0 with y | y
    · omega
    · obtain ⟨c, hc⟩ := Int.eq_ofNat_of_zero_le y
      have := St.uniq1 hM' hM hD' hD hx.symm hy.symm ht.symm hf.symm (d := e / 40) (e := e % 40) (f := c) (by omega) (by omega) (by omega) (by rw [ee]; exact hc)
      rw [ee] at this
      omega
  · obtain ⟨c, hc⟩ := Int.eq_ofNat_of_zero_le z
    have := St.uniq1 hM hM' hD hD' hx hy ht hf (d := e / 40) (e := e % 40) (f := c) (by omega) (by omega) (by omega) (by rw [ee]; exact hc)
    rw [ee] at this
    omega
