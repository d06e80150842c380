/-! WHAT IS ASKED of a mesh: circles, who is ahead, the border. By hand. -/
/-- above 0: d is inside of the circle through a, b, c, reckoned from d -/
def St.lin (S : St) (a b c d : Nat) : Int := ((S.xs a - S.xs d) * (S.xs a - S.xs d) + (S.ys a - S.ys d) * (S.ys a - S.ys d)) * ((S.xs b - S.xs d) * (S.ys c - S.ys d) - (S.ys b - S.ys d) * (S.xs c - S.xs d)) + ((S.xs b - S.xs d) * (S.xs b - S.xs d) + (S.ys b - S.ys d) * (S.ys b - S.ys d)) * ((S.xs c - S.xs d) * (S.ys a - S.ys d) - (S.ys c - S.ys d) * (S.xs a - S.xs d)) + ((S.xs c - S.xs d) * (S.xs c - S.xs d) + (S.ys c - S.ys d) * (S.ys c - S.ys d)) * ((S.xs a - S.xs d) * (S.ys b - S.ys d) - (S.ys a - S.ys d) * (S.xs b - S.xs d))
theorem St.lin_U (S : St) (a b c d : Nat) : S.lin a b c d = S.U S.liR a b c d := by
  unfold St.lin St.U St.liR St.sd3 St.sd
  grind
abbrev St.ahd (S : St) (u v : Nat) : Prop := S.xs u < S.xs v ∨ (S.xs u = S.xs v ∧ S.ys u < S.ys v)
theorem St.ahd_ky {S : St} (hB : S.inB) {u v : Nat} (hu : u < 40) (hv : v < 40) : S.ahd u v ↔ S.ky u < S.ky v := by
  have h1 := hB u hu
  have h2 := hB v hv
  unfold St.ahd St.ky
  constructor
  · rintro (z | ⟨z1, z2⟩) <;> omega
  · intro z
    by_cases c : S.xs u = S.xs v
    · right; omega
    · left; omega
/-- an edge isn't allowed: as the circle and who is ahead tell it -/
theorem St.bad_iff {S : St} (hB : S.inB) (hd : S.dist) {p q r s : Nat} (hb : p < 40 ∧ q < 40 ∧ r < 40 ∧ s < 40) (hh : S.has p ∧ S.has q ∧ S.has r ∧ S.has s) (hn : p ≠ q ∧ q ≠ r ∧ r ≠ p ∧ p ≠ s ∧ q ≠ s ∧ r ≠ s) {f : Nat} (hf : (S.ahd p q ∧ f = p) ∨ (¬ S.ahd p q ∧ f = q)) : ¬ S.alw p q r s ↔ 0 < S.lin p q r s ∨ (S.lin p q r s = 0 ∧ (S.ahd r f ∨ S.ahd s f)) := by
  have f4 := St.first4 hB hd hb hh hn
  rw [St.lin_U]
  have hf4 : f < 40 := by omega
  have k1 := St.ahd_ky hB hb.1 hb.2.1
  have k2 := St.ahd_ky hB hb.2.2.1 hf4
  have k3 := St.ahd_ky hB hb.2.2.2 hf4
  rw [k2, k3]
  rw [k1] at hf
  have fmin : S.ky f ≤ S.ky p ∧ S.ky f ≤ S.ky q ∧ (f = p ∨ f = q) := by
    rcases hf with ⟨z1, z2⟩ | ⟨z1, z2⟩ <;> rw [z2] <;> omega
  unfold St.alw
  constructor
  · intro h
    rcases Int.lt_trichotomy (S.U S.liR p q r s) 0 with z | z | z
    · exact absurd (Or.inl z) h
    · right
      refine ⟨z, ?_⟩
      rcases f4 with ⟨g, g1, g2, g3⟩ | ⟨g, g1, g2, g3⟩ | ⟨g, g1, g2, g3⟩ | ⟨g, g1, g2, g3⟩
      · exact absurd (Or.inr ⟨z, Or.inl g⟩) h
      · exact absurd (Or.inr ⟨z, Or.inr g⟩) h
      · left
        rcases fmin.2.2 with y | y <;> rw [y] <;> omega
      · right
        rcases fmin.2.2 with y | y <;> rw [y] <;> omega
    · exact Or.inl z
  · rintro h (z | ⟨z, y⟩)
    · rcases h with h | ⟨h, -⟩ <;> omega
    · rcases h with h | ⟨-, h⟩
      · omega
      · rcases f4 with ⟨g, g1, g2, g3⟩ | ⟨g, g1, g2, g3⟩ | ⟨g, g1, g2, g3⟩ | ⟨g, g1, g2, g3⟩
        · rcases h with h | h <;> omega
        · rcases h with h | h <;> omega
        · rcases y with y | y
          · exact hn.2.2.1 (g.symm.trans y)
          · exact hn.2.1 (g.symm.trans y).symm
        · rcases y with y | y
          · exact hn.2.2.2.1 (g.symm.trans y).symm
          · exact hn.2.2.2.2.1 (g.symm.trans y).symm
/-- an edge along the border is one of one triangle -/
theorem St.onside_one {S : St} (hG : S.Geo) {u v : Nat} (hu : u < 40) (hv : v < 40) (hE : S.E u v ∨ S.E v u) (ho : S.onside u v) : S.E u v ∧ ¬ S.E v u := by
  have no : ¬ S.E v u := by
    intro z
    have b1 := hG.2.2.1 (v * 40 + u) (by omega)
    unfold St.E at z
    obtain ⟨d, hd⟩ := Int.eq_ofNat_of_zero_le (show 0 ≤ S.ap (v * 40 + u) by omega)
    obtain ⟨-, -, -, g⟩ := hG.2.2.2.2.1 v u d hv hu (by omega) hd
    have bd := hG.1 d (by omega)
    unfold St.sd3 St.sd at g
    rcases ho with ⟨a1, a2, a3⟩ | ⟨a1, a2, a3⟩ | ⟨a1, a2, a3⟩ | ⟨a1, a2, a3⟩
    · rw [a1, a2, Int.sub_self, Int.zero_mul, Int.sub_zero] at g
      have := Int.mul_nonpos_of_nonpos_of_nonneg (show S.xs u - S.xs v ≤ 0 by omega) (show 0 ≤ S.ys d - -1000 by omega)
      omega
    · rw [a1, a2, Int.sub_self, Int.zero_mul, Int.zero_sub] at g
      have := Int.mul_nonneg_of_nonpos_of_nonpos (show S.ys u - S.ys v ≤ 0 by omega) (show S.xs d - 1000 ≤ 0 by omega)
      omega
    · rw [a1, a2, Int.sub_self, Int.zero_mul, Int.sub_zero] at g
      have := Int.mul_nonpos_of_nonneg_of_nonpos (show 0 ≤ S.xs u - S.xs v by omega) (show S.ys d - 1000 ≤ 0 by omega)
      omega
    · rw [a1, a2, Int.sub_self, Int.zero_mul, Int.zero_sub] at g
      have := Int.mul_nonneg (show 0 ≤ S.ys u - S.ys v by omega) (show 0 ≤ S.xs d - -1000 by omega)
      omega
  exact ⟨hE.elim (fun z => z) (fun z => absurd z no), no⟩
/-- an edge of one triangle: one along the border -/
theorem St.one_iff {S : St} (hG : S.Geo) {u v : Nat} (hu : u < 40) (hv : v < 40) (hE : S.E u v ∨ S.E v u) : ¬ (S.E u v ∧ S.E v u) ↔ S.onside u v ∨ S.onside v u := by
  constructor
  · intro z
    by_cases c : S.E u v
    · exact Or.inl (hG.2.2.2.2.2.2.1 u v hu hv c (St.nE.mp (fun w => z ⟨c, w⟩)))
    · have c2 := hE.resolve_left c
      exact Or.inr (hG.2.2.2.2.2.2.1 v u hv hu c2 (St.nE.mp c))
  · rintro (z | z) ⟨w1, w2⟩
    · exact (St.onside_one hG hu hv hE z).2 w2
    · exact (St.onside_one hG hv hu (hE.elim (fun q => Or.inr q) (fun q => Or.inl q)) z).2 w1
