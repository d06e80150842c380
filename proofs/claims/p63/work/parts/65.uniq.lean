/-! ONE MESH ALONE for each state. By hand. -/
/-- by which triangle the line from a place to q is left -/
def St.xrs (S : St) (x y s : Int) (q u v : Nat) : Prop := S.E u v ∧ 0 < S.Hs u v x y s ∧ S.sd3 u v q < 0 ∧ S.Hs q u x y s < 0 ∧ 0 < S.Hs q v x y s
theorem St.U_plane (S : St) (L : Nat → Int) (u v c d q : Nat) : S.U L v u d q * S.sd3 u v c - S.U L u v c q * S.sd3 v u d = -(S.U L u v c d * S.sd3 v u q) := by
  unfold St.U St.sd3 St.sd
  grind
theorem St.Hs_q (S : St) (u v w q : Nat) (x y s : Int) : S.sd3 v w q * S.Hs q u x y s + S.sd3 w u q * S.Hs q v x y s + S.sd3 u v q * S.Hs q w x y s = 0 := by
  unfold St.Hs St.sd3 St.sd
  grind
theorem St.Hs_X (S : St) (u v w q : Nat) (x y s : Int) : S.Hs v w x y s * S.Hs q u x y s + S.Hs w u x y s * S.Hs q v x y s + S.Hs u v x y s * S.Hs q w x y s = 0 := by
  unfold St.Hs
  grind
theorem St.Hs_dif (S : St) (a b q : Nat) (x y s : Int) : s * S.sd3 a b q = S.Hs a b x y s + S.Hs q a x y s - S.Hs q b x y s := by
  unfold St.Hs St.sd3 St.sd
  grind
/-- nothing that is fixed lies between a place and q -/
def St.clear (S : St) (x y s : Int) (q : Nat) : Prop := ∀ u v : Nat, u < 40 → v < 40 → S.bound u v → ¬ (0 < S.Hs u v x y s ∧ S.sd3 u v q < 0 ∧ S.Hs q u x y s < 0 ∧ 0 < S.Hs q v x y s)
/-- beyond an edge that is left: q, or the next one -/
theorem St.xrs_next {S : St} (hM : S.Msh) (hDel : S.Del) {L : Nat → Int} (hL : S.goodL L) {x y s : Int} (hg : S.gen x y s) {q u v : Nat} (hq : q < 40) (sq : S.has q) (hc : S.clear x y s q) (hu : u < 40) (hv : v < 40) (h : S.xrs x y s q u v) : ∃ c d : Nat, c < 40 ∧ d < 40 ∧ S.ap (u * 40 + v) = (c : Int) ∧ S.ap (v * 40 + u) = (d : Int) ∧ 0 < S.sd3 u v c ∧ 0 < S.sd3 v u d ∧ S.U L u v c d < 0 ∧ (d = q ∨ (S.xrs x y s q u d ∧ S.ap (u * 40 + d) = (v : Int)) ∨ (S.xrs x y s q d v ∧ S.ap (d * 40 + v) = (u : Int))) := by
  obtain ⟨h1, h2, h3, h4, h5⟩ := h
  have hG := hM.1
  have h6 := St.not_border hG hu hv hq h1 h3
  obtain ⟨c, d, f1, f2, g1, g2, g3, g4, g5⟩ := St.two hG hu hv h1 h6
  obtain ⟨-, -, c4, d4⟩ := id g1
  obtain ⟨su, sv, sc, sd⟩ := id g2
  have nb : ¬ S.bound u v := fun z => hc u v hu hv z ⟨h2, h3, h4, h5⟩
  have nb2 : ¬ S.bound v u := fun z => nb ((hM.2.1.1 v u hv hu z).1)
  have hU : S.U L u v c d < 0 := by
    rcases Nat.lt_trichotomy u v with z | z | z
    · have a0 := hDel u v z hv h1 h6 nb
      rw [f1, f2, Int.toNat_natCast, Int.toNat_natCast] at a0
      exact (hL.2 u v c d g1 g2 g3 g4 g5).1 a0
    · exact absurd z g3.1
    · have a0 := hDel v u z hu h6 h1 nb2
      rw [f1, f2, Int.toNat_natCast, Int.toNat_natCast] at a0
      have := (hL.2 v u d c ⟨hv, hu, d4, c4⟩ ⟨sv, su, sd, sc⟩ ⟨fun z => g3.1 z.symm, g3.2.2.2.1, fun z => g3.2.2.2.2.1 z.symm, g3.2.1, fun z => g3.2.2.1 z.symm, fun z => g3.2.2.2.2.2 z.symm⟩ g5 g4).1 a0
      rw [St.U_sym] at this
      exact this
  obtain ⟨k1, k2⟩ := hG.2.2.2.1 v u d hv hu d4 f2
  refine ⟨c, d, c4, d4, f1, f2, g4, g5, hU, ?_⟩
  by_cases dq : d = q
  · exact Or.inl dq
  right
  have hdX : S.Hs q d x y s ≠ 0 := hg.2.2 q d hq d4 sq sd (fun z => dq z.symm)
  have eq1 := S.Hs_q v u d q x y s
  have eX := S.Hs_X v u d q x y s
  have w1 := S.sd3_swap u v q
  have w2 := S.Hs_anti u v x y s
  have sum := S.Hs_sum v u d x y s
  have hs := hg.1
  have pos := Int.mul_pos hs g5
  have notin : ¬ (0 ≤ S.sd3 v u q ∧ 0 ≤ S.sd3 u d q ∧ 0 ≤ S.sd3 d v q) := by
    rintro ⟨z1, z2, z3⟩
    rcases St.alone hG hv hu d4 f2 hq sq z1 z2 z3 with z | z | z
    · rw [z, St.sd3_self2] at h3; omega
    · rw [z, St.sd3_self3] at h3; omega
    · exact dq z.symm
  have gen1 := hg.2.2 u d hu d4 su sd g3.2.2.2.1
  have gen2 := hg.2.2 d v d4 hv sd sv (fun z => g3.2.2.2.2.1 z.symm)
  rcases Int.lt_or_gt_of_ne hdX with z | z
  · -- d to the right
    right
    refine ⟨⟨by unfold St.E; omega, ?_, ?_, z, h5⟩, k2⟩
    · rcases Int.lt_or_gt_of_ne gen2 with t | t
      · exfalso
        have m1 := Int.mul_pos_of_neg_of_neg t h4
        have m2 := Int.mul_pos_of_neg_of_neg (show S.Hs v u x y s < 0 by omega) z
        have : S.Hs u d x y s < 0 := by
          rcases Int.lt_or_le (S.Hs u d x y s) 0 with r | r
          · exact r
          · have := Int.mul_nonneg r (show 0 ≤ S.Hs q v x y s by omega); omega
        omega
      · exact t
    · rcases Int.lt_or_le (S.sd3 d v q) 0 with t | t
      · exact t
      · exfalso
        have m1 := Int.mul_nonpos_of_nonneg_of_nonpos t (show S.Hs q u x y s ≤ 0 by omega)
        have m2 := Int.mul_neg_of_pos_of_neg (show 0 < S.sd3 v u q by omega) z
        have : 0 < S.sd3 u d q := by
          rcases Int.lt_or_le 0 (S.sd3 u d q) with r | r
          · exact r
          · have := Int.mul_nonpos_of_nonpos_of_nonneg r (show 0 ≤ S.Hs q v x y s by omega); omega
        exact notin ⟨by omega, by omega, t⟩
  · left
    refine ⟨⟨by unfold St.E; omega, ?_, ?_, h4, z⟩, k1⟩
    · rcases Int.lt_or_gt_of_ne gen1 with t | t
      · exfalso
        have m1 := Int.mul_neg_of_neg_of_pos t h5
        have m2 := Int.mul_neg_of_neg_of_pos (show S.Hs v u x y s < 0 by omega) z
        have : S.Hs d v x y s < 0 := by
          rcases Int.lt_or_le (S.Hs d v x y s) 0 with r | r
          · exact r
          · have := Int.mul_nonpos_of_nonneg_of_nonpos r (show S.Hs q u x y s ≤ 0 by omega); omega
        omega
      · exact t
    · rcases Int.lt_or_le (S.sd3 u d q) 0 with t | t
      · exact t
      · exfalso
        have m1 := Int.mul_nonneg t (show 0 ≤ S.Hs q v x y s by omega)
        have m2 := Int.mul_pos (show 0 < S.sd3 v u q by omega) z
        have : 0 < S.sd3 d v q := by
          rcases Int.lt_or_le 0 (S.sd3 d v q) with r | r
          · exact r
          · have := Int.mul_nonneg_of_nonpos_of_nonpos r (show S.Hs q u x y s ≤ 0 by omega); omega
        exact notin ⟨by omega, t, by omega⟩
/-- no triangle on the way has q under its plane -/
theorem St.xrs_neg {S : St} (hM : S.Msh) (hDel : S.Del) {L : Nat → Int} (hL : S.goodL L) {x y s : Int} (hg : S.gen x y s) {q : Nat} (hq : q < 40) (sq : S.has q) (hc : S.clear x y s q) {u v c : Nat} (hu : u < 40) (hv : v < 40) (h : S.xrs x y s q u v) (hap : S.ap (u * 40 + v) = (c : Int)) : S.U L u v c q < 0 := by
  have hpos : ∀ e : Nat, e < 1600 → S.xrs x y s q (e / 40) (e % 40) → 0 < S.sd3 (e / 40) (e % 40) (S.ap (e / 40 * 40 + e % 40)).toNat := by
    intro e he hx
    obtain ⟨c, d, c4, d4, f1, f2, g4, g5, -⟩ := St.xrs_next hM hDel hL hg hq sq hc (show e / 40 < 40 by omega) (show e % 40 < 40 by omega) hx
    rw [f1, Int.toNat_natCast]
    exact g4
  obtain ⟨e, e1, e2, e3⟩ := frac_max (P := fun e => S.xrs x y s q (e / 40) (e % 40)) (N := fun e => S.U L (e / 40) (e % 40) (S.ap (e / 40 * 40 + e % 40)).toNat q) (D := fun e => S.sd3 (e / 40) (e % 40) (S.ap (e / 40 * 40 + e % 40)).toNat) 1600 hpos ⟨u * 40 + v, by omega, by
    show S.xrs x y s q ((u * 40 + v) / 40) ((u * 40 + v) % 40)
    rw [show (u * 40 + v) / 40 = u by omega, show (u * 40 + v) % 40 = v by omega]
    exact h⟩
  have e2' : S.xrs x y s q (e / 40) (e % 40) := e2
  have hu2 : e / 40 < 40 := by omega
  have hv2 : e % 40 < 40 := by omega
  obtain ⟨c', d, c4, d4, f1, f2, g4, g5, hU, hn⟩ := St.xrs_next hM hDel hL hg hq sq hc hu2 hv2 e2'
  have mx : ∀ a b w : Nat, a < 40 → b < 40 → S.xrs x y s q a b → S.ap (a * 40 + b) = (w : Int) → S.U L a b w q * S.sd3 (e / 40) (e % 40) c' ≤ S.U L (e / 40) (e % 40) c' q * S.sd3 a b w := by
    intro a b w ha hb hx hw
    have t := e3 (a * 40 + b) (by omega) (by
      show S.xrs x y s q ((a * 40 + b) / 40) ((a * 40 + b) % 40)
      rw [show (a * 40 + b) / 40 = a by omega, show (a * 40 + b) % 40 = b by omega]
      exact hx)
    have t2 : S.U L ((a * 40 + b) / 40) ((a * 40 + b) % 40) (S.ap ((a * 40 + b) / 40 * 40 + (a * 40 + b) % 40)).toNat q * S.sd3 (e / 40) (e % 40) (S.ap (e / 40 * 40 + e % 40)).toNat ≤ S.U L (e / 40) (e % 40) (S.ap (e / 40 * 40 + e % 40)).toNat q * S.sd3 ((a * 40 + b) / 40) ((a * 40 + b) % 40) (S.ap ((a * 40 + b) / 40 * 40 + (a * 40 + b) % 40)).toNat := t
    rw [show (a * 40 + b) / 40 = a by omega, show (a * 40 + b) % 40 = b by omega, hw, f1, Int.toNat_natCast, Int.toNat_natCast] at t2
    exact t2
  have h3 := e2'.2.2.1
  have w1 := S.sd3_swap (e / 40) (e % 40) q
  have up := S.U_plane L (e / 40) (e % 40) c' d q
  have m := Int.mul_neg_of_neg_of_pos hU (show 0 < S.sd3 (e % 40) (e / 40) q by omega)
  have fin : S.U L (e / 40) (e % 40) c' q < 0 := by
    rcases hn with z | ⟨z1, z2⟩ | ⟨z1, z2⟩
    · rw [z] at hU; exact hU
    · exfalso
      have t := mx (e / 40) d (e % 40) hu2 d4 z1 z2
      have r1 : S.U L (e / 40) d (e % 40) q = S.U L (e % 40) (e / 40) d q := S.U_rot L (e % 40) (e / 40) d q
      have r2 : S.sd3 (e / 40) d (e % 40) = S.sd3 (e % 40) (e / 40) d := St.sd3_rot S (e % 40) (e / 40) d
      rw [r1, r2] at t
      omega
    · exfalso
      have t := mx d (e % 40) (e / 40) d4 hv2 z1 z2
      have r1 : S.U L d (e % 40) (e / 40) q = S.U L (e % 40) (e / 40) d q := (S.U_rot L d (e % 40) (e / 40) q).symm
      have r2 : S.sd3 d (e % 40) (e / 40) = S.sd3 (e % 40) (e / 40) d := (St.sd3_rot S d (e % 40) (e / 40)).symm
      rw [r1, r2] at t
      omega
  have t := mx u v c hu hv h hap
  have gp := hpos (u * 40 + v) (by omega) (by rw [show (u * 40 + v) / 40 = u by omega, show (u * 40 + v) % 40 = v by omega]; exact h)
  rw [show (u * 40 + v) / 40 = u by omega, show (u * 40 + v) % 40 = v by omega, hap, Int.toNat_natCast] at gp
  have m2 := Int.mul_neg_of_neg_of_pos fin gp
  rcases Int.lt_or_le (S.U L u v c q) 0 with z | z
  · exact z
  · have := Int.mul_nonneg z (show 0 ≤ S.sd3 (e / 40) (e % 40) c' by omega)
    omega
/-- a triangle that holds the place: q isn't under its plane -/
theorem St.tri_neg {S : St} (hM : S.Msh) (hDel : S.Del) {L : Nat → Int} (hL : S.goodL L) {x y s : Int} (hg : S.gen x y s) {q : Nat} (hq : q < 40) (sq : S.has q) (hc : S.clear x y s q) {a b c : Nat} (ha : a < 40) (hb : b < 40) (hc4 : c < 40) (hap : S.ap (a * 40 + b) = (c : Int)) (hT : S.inT x y s a b c) : S.U L a b c q ≤ 0 ∧ ((q ≠ a ∧ q ≠ b ∧ q ≠ c) → S.U L a b c q < 0) := by
  by_cases hqT : q = a ∨ q = b ∨ q = c
  · refine ⟨?_, fun z => by omega⟩
    rcases hqT with z | z | z
    · rw [z, St.U_self1]; exact Int.le_refl _
    · rw [z, St.U_self2]; exact Int.le_refl _
    · rw [z, St.U_self3]; exact Int.le_refl _
  · have hG := hM.1
    obtain ⟨k1, k2⟩ := hG.2.2.2.1 a b c ha hb hc4 hap
    obtain ⟨sa, sb, sc, g⟩ := hG.2.2.2.2.1 a b c ha hb hc4 hap
    have hs := hg.1
    -- the edge by which the line leaves: its ends to the right and to the left
    have main : ∀ u v w : Nat, u < 40 → v < 40 → w < 40 → S.has u → S.has v → S.has w → S.ap (u * 40 + v) = (w : Int) → S.inT x y s u v w → (q ≠ u ∧ q ≠ v ∧ q ≠ w) → S.Hs q u x y s < 0 → 0 < S.Hs q v x y s → S.U L u v w q < 0 := by
      intro u v w hu hv hw su sv sw hz ht hn p1 p2
      refine St.xrs_neg hM hDel hL hg hq sq hc hu hv ⟨by unfold St.E; omega, ht.1, ?_, p1, p2⟩ hz
      rcases Int.lt_or_le (S.sd3 u v q) 0 with t | t
      · exact t
      · exfalso
        have notin : ¬ (0 ≤ S.sd3 u v q ∧ 0 ≤ S.sd3 v w q ∧ 0 ≤ S.sd3 w u q) := by
          rintro ⟨z1, z2, z3⟩
          rcases St.alone hG hu hv hw hz hq sq z1 z2 z3 with z | z | z
          · exact hn.1 z
          · exact hn.2.1 z
          · exact hn.2.2 z
        have eq1 := S.Hs_q u v w q x y s
        have hwX := hg.2.2 q w hq hw sq sw hn.2.2
        rcases Int.lt_or_gt_of_ne hwX with r | r
        · have d := S.Hs_dif v w q x y s
          have := ht.2.1
          have k := mul_pos_l hs (show 0 < s * S.sd3 v w q by omega)
          have m1 := Int.mul_neg_of_pos_of_neg k p1
          have m2 := Int.mul_nonpos_of_nonneg_of_nonpos t (show S.Hs q w x y s ≤ 0 by omega)
          have : 0 < S.sd3 w u q := by
            rcases Int.lt_or_le 0 (S.sd3 w u q) with y2 | y2
            · exact y2
            · have := Int.mul_nonpos_of_nonpos_of_nonneg y2 (show 0 ≤ S.Hs q v x y s by omega); omega
          exact notin ⟨t, by omega, by omega⟩
        · have d := S.Hs_dif w u q x y s
          have := ht.2.2
          have k := mul_pos_l hs (show 0 < s * S.sd3 w u q by omega)
          have m1 := Int.mul_pos k p2
          have m2 := Int.mul_nonneg t (show 0 ≤ S.Hs q w x y s by omega)
          have : 0 < S.sd3 v w q := by
            rcases Int.lt_or_le 0 (S.sd3 v w q) with y2 | y2
            · exact y2
            · have := Int.mul_nonneg_of_nonpos_of_nonpos y2 (show S.Hs q u x y s ≤ 0 by omega); omega
          exact notin ⟨t, by omega, by omega⟩
    have nq : q ≠ a ∧ q ≠ b ∧ q ≠ c := by omega
    have ga := hg.2.2 q a hq ha sq sa nq.1
    have gb := hg.2.2 q b hq hb sq sb nq.2.1
    have gc := hg.2.2 q c hq hc4 sq sc nq.2.2
    have eX := S.Hs_X a b c q x y s
    obtain ⟨t1, t2, t3⟩ := hT
    have r1 := S.U_rot L a b c q
    have r2 := S.U_rot L b c a q
    have fin : S.U L a b c q < 0 := by
      rcases Int.lt_or_gt_of_ne ga with a0 | a0 <;> rcases Int.lt_or_gt_of_ne gb with b0 | b0 <;> rcases Int.lt_or_gt_of_ne gc with c0 | c0
      · exfalso
        have := Int.mul_neg_of_pos_of_neg t2 a0
        have := Int.mul_neg_of_pos_of_neg t3 b0
        have := Int.mul_neg_of_pos_of_neg t1 c0
        omega
      · have := main b c a hb hc4 ha sb sc sa k1 ⟨t2, t3, t1⟩ ⟨nq.2.1, nq.2.2, nq.1⟩ b0 c0; omega
      · exact main a b c ha hb hc4 sa sb sc hap ⟨t1, t2, t3⟩ nq a0 b0
      · exact main a b c ha hb hc4 sa sb sc hap ⟨t1, t2, t3⟩ nq a0 b0
      · have := main c a b hc4 ha hb sc sa sb k2 ⟨t3, t1, t2⟩ ⟨nq.2.2, nq.1, nq.2.1⟩ c0 a0; omega
      · have := main b c a hb hc4 ha sb sc sa k1 ⟨t2, t3, t1⟩ ⟨nq.2.1, nq.2.2, nq.1⟩ b0 c0; omega
      · have := main c a b hc4 ha hb sc sa sb k2 ⟨t3, t1, t2⟩ ⟨nq.2.2, nq.1, nq.2.1⟩ c0 a0; omega
      · exfalso
        have := Int.mul_pos t2 a0
        have := Int.mul_pos t3 b0
        have := Int.mul_pos t1 c0
        omega
    exact ⟨by omega, fun _ => fin⟩
