/-! EACH FLIP LEAVES FEWER: triangles and points under their planes. By hand. -/
theorem sumR_lt {f g : Nat → Int} {n k : Nat} (hk : k < n) (h : ∀ j : Nat, j < n → f j ≤ g j) (h2 : f k < g k) : sumR n f < sumR n g := by
  have e := sumR_mem (f := fun j => g j - f j) (n := n) (k := k) (fun j hj => by have := h j hj; show 0 ≤ g j - f j; omega) hk
  have e2 : sumR n g = sumR n f + sumR n (fun j => g j - f j) := by
    rw [← sumR_add]
    exact sumR_congr (fun j _ => by show g j = f j + (g j - f j); omega)
  have e3 : g k - f k ≤ sumR n (fun j => g j - f j) := e
  omega
theorem St.U_self1 (S : St) (L : Nat → Int) (a b c : Nat) : S.U L a b c a = 0 := by
  unfold St.U St.sd3 St.sd
  grind
theorem St.U_self2 (S : St) (L : Nat → Int) (a b c : Nat) : S.U L a b c b = 0 := by
  unfold St.U St.sd3 St.sd
  grind
theorem St.U_self3 (S : St) (L : Nat → Int) (a b c : Nat) : S.U L a b c c = 0 := by
  unfold St.U St.sd3 St.sd
  grind
/-- one where a point lies under the plane of three -/
def St.nb1 (S : St) (L : Nat → Int) (u v w p : Nat) : Int := if S.has p ∧ 0 < S.U L u v w p then 1 else 0
/-- how many lie under it -/
def St.nb (S : St) (L : Nat → Int) (u v w : Nat) : Int := sumR 40 (fun p => S.nb1 L u v w p)
theorem St.nb1_01 (S : St) (L : Nat → Int) (u v w p : Nat) : 0 ≤ S.nb1 L u v w p ∧ S.nb1 L u v w p ≤ 1 := by
  unfold St.nb1
  split <;> omega
theorem St.nb1_0 {S : St} {L : Nat → Int} {u v w p : Nat} (h : S.U L u v w p ≤ 0) : S.nb1 L u v w p = 0 := if_neg (fun z => by have := z.2; omega)
theorem St.nb1_1 {S : St} {L : Nat → Int} {u v w p : Nat} (hs : S.has p) (h : 0 < S.U L u v w p) : S.nb1 L u v w p = 1 := if_pos ⟨hs, h⟩
theorem St.nb_rot (S : St) (L : Nat → Int) (u v w : Nat) : S.nb L v w u = S.nb L u v w := by
  unfold St.nb
  apply sumR_congr
  intro p _
  unfold St.nb1
  rw [St.U_rot]
theorem St.nb_bd (S : St) (L : Nat → Int) (u v w : Nat) : 0 ≤ S.nb L u v w ∧ S.nb L u v w ≤ 40 := by
  constructor
  · exact sumR_nonneg (fun p _ => (S.nb1_01 L u v w p).1)
  · have h : sumR 40 (fun p => S.nb1 L u v w p) ≤ sumR 40 (fun _ => 1) := sumR_le (fun p _ => (S.nb1_01 L u v w p).2)
    have h2 : sumR 40 (fun _ => 1) = 40 := rfl
    show sumR 40 (fun p => S.nb1 L u v w p) ≤ 40
    omega
theorem St.nb1_flip {S : St} {L : Nat → Int} (hs : S.scv L) {a b c d p : Nat} (hb : a < 40 ∧ b < 40 ∧ c < 40 ∧ d < 40) (hp : p < 40) (hh : S.has a ∧ S.has b ∧ S.has c ∧ S.has d) (hn : a ≠ b ∧ b ≠ c ∧ c ≠ a ∧ a ≠ d ∧ b ≠ d ∧ c ≠ d) (hU : 0 < S.U L a b c d) : S.nb1 L a d c p + S.nb1 L d b c p ≤ S.nb1 L a b c p + S.nb1 L b a d p := by
  by_cases hsp : S.has p
  · have e1 := S.U_5 L a b c d p
    have ex := S.U_5x L a b c d p
    have ey := S.U_5y L a b c d p
    have el := S.U_5l L a b c d p
    obtain ⟨ba, bb, bc, bd⟩ := hb
    obtain ⟨sa, sb, sc, sd⟩ := hh
    obtain ⟨n1, n2, n3, n4, n5, n6⟩ := hn
    by_cases pa : p = a
    · subst pa
      have z1 := S.U_self1 L p d c
      have z2 := S.U_self1 L p b c
      have z3 := S.U_self2 L b p d
      rw [St.nb1_0 (u := p) (v := d) (by omega), St.nb1_0 (u := d) (v := b) (by omega)]
      have := S.nb1_01 L p b c p
      have := S.nb1_01 L b p d p
      omega
    by_cases pb : p = b
    · subst pb
      have z1 := S.U_self2 L d p c
      have z2 := S.U_self2 L a p c
      have z3 := S.U_self1 L p a d
      rw [St.nb1_0 (u := a) (v := d) (by omega), St.nb1_0 (u := d) (v := p) (by omega)]
      have := S.nb1_01 L a p c p
      have := S.nb1_01 L p a d p
      omega
    by_cases pc : p = c
    · subst pc
      have z1 := S.U_self3 L d b p
      have z2 := S.U_self3 L a d p
      rw [St.nb1_0 (u := a) (v := d) (by omega), St.nb1_0 (u := d) (v := b) (by omega)]
      have := S.nb1_01 L a b p p
      have := S.nb1_01 L b a d p
      omega
    by_cases pd : p = d
    · subst pd
      have z1 := S.U_self1 L p b c
      have z2 := S.U_self2 L a p c
      rw [St.nb1_0 (u := a) (v := p) (by omega), St.nb1_0 (u := p) (v := b) (by omega)]
      have := S.nb1_01 L a b c p
      have := S.nb1_01 L b a p p
      omega
    have t1 := S.nb1_01 L a b c p
    have t2 := S.nb1_01 L b a d p
    rcases Int.lt_or_le 0 (S.U L a d c p) with v1 | v1 <;> rcases Int.lt_or_le 0 (S.U L d b c p) with v2 | v2
    · -- both
      have w1 : 0 < S.U L a b c p := by
        rcases Int.lt_or_le 0 (S.U L a b c p) with z | z
        · exact z
        · exfalso
          have := hs c a b p d ⟨bc, ba, bb, hp, bd⟩ ⟨sc, sa, sb, hsp, sd⟩ ⟨fun q => n3 q.symm, n2, pc, fun q => n6 q.symm⟩ (S.U L d b c p) (S.U L a d c p) (S.U L a b c d) (-S.U L a b c p) (S.U L b a d p) ⟨by omega, by omega, by omega, by omega⟩ (by omega) (by omega) (by rw [Int.neg_mul]; omega) (by rw [Int.neg_mul]; omega)
          rw [Int.neg_mul] at this
          omega
      have w2 : 0 < S.U L b a d p := by
        rcases Int.lt_or_le 0 (S.U L b a d p) with z | z
        · exact z
        · exfalso
          have := hs d a b p c ⟨bd, ba, bb, hp, bc⟩ ⟨sd, sa, sb, hsp, sc⟩ ⟨n4, n5, pd, n6⟩ (S.U L d b c p) (S.U L a d c p) (S.U L a b c d) (-S.U L b a d p) (S.U L a b c p) ⟨by omega, by omega, by omega, by omega⟩ (by omega) (by omega) (by rw [Int.neg_mul]; omega) (by rw [Int.neg_mul]; omega)
          rw [Int.neg_mul] at this
          omega
      rw [St.nb1_1 hsp v1, St.nb1_1 hsp v2, St.nb1_1 hsp w1, St.nb1_1 hsp w2]
      decide
    · rw [St.nb1_1 hsp v1, St.nb1_0 v2]
      rcases Int.lt_or_le 0 (S.U L a b c p) with z | z
      · rw [St.nb1_1 hsp z]; omega
      · rcases Int.lt_or_le 0 (S.U L b a d p) with y | y
        · rw [St.nb1_1 hsp y]; omega
        · exfalso
          have := hs a b p c d ⟨ba, bb, hp, bc, bd⟩ ⟨sa, sb, hsp, sc, sd⟩ ⟨fun q => n1 q.symm, pa, n3, fun q => n4 q.symm⟩ (S.U L a d c p) (S.U L a b c d) (-S.U L b a d p) (-S.U L a b c p) (-S.U L d b c p) ⟨by omega, by omega, by omega, by omega⟩ (by omega) (by omega) (by rw [Int.neg_mul, Int.neg_mul, Int.neg_mul]; omega) (by rw [Int.neg_mul, Int.neg_mul, Int.neg_mul]; omega)
          rw [Int.neg_mul, Int.neg_mul, Int.neg_mul] at this
          omega
    · rw [St.nb1_0 v1, St.nb1_1 hsp v2]
      rcases Int.lt_or_le 0 (S.U L a b c p) with z | z
      · rw [St.nb1_1 hsp z]; omega
      · rcases Int.lt_or_le 0 (S.U L b a d p) with y | y
        · rw [St.nb1_1 hsp y]; omega
        · exfalso
          have := hs b a p c d ⟨bb, ba, hp, bc, bd⟩ ⟨sb, sa, hsp, sc, sd⟩ ⟨n1, pb, fun q => n2 q.symm, fun q => n5 q.symm⟩ (S.U L d b c p) (S.U L a b c d) (-S.U L b a d p) (-S.U L a b c p) (-S.U L a d c p) ⟨by omega, by omega, by omega, by omega⟩ (by omega) (by omega) (by rw [Int.neg_mul, Int.neg_mul, Int.neg_mul]; omega) (by rw [Int.neg_mul, Int.neg_mul, Int.neg_mul]; omega)
          rw [Int.neg_mul, Int.neg_mul, Int.neg_mul] at this
          omega
    · rw [St.nb1_0 v1, St.nb1_0 v2]
      omega
  · have z : ∀ u v w : Nat, S.nb1 L u v w p = 0 := fun u v w => if_neg (fun q => hsp q.1)
    rw [z, z, z, z]
    decide
theorem St.nb_flip {S : St} {L : Nat → Int} (hs : S.scv L) {a b c d : Nat} (hb : a < 40 ∧ b < 40 ∧ c < 40 ∧ d < 40) (hh : S.has a ∧ S.has b ∧ S.has c ∧ S.has d) (hn : a ≠ b ∧ b ≠ c ∧ c ≠ a ∧ a ≠ d ∧ b ≠ d ∧ c ≠ d) (hU : 0 < S.U L a b c d) : S.nb L a d c + S.nb L d b c < S.nb L a b c + S.nb L b a d := by
  unfold St.nb
  rw [← sumR_add, ← sumR_add]
  refine sumR_lt hb.2.2.2 (fun p hp => St.nb1_flip hs hb hp hh hn hU) ?_
  have z1 := S.U_self1 L d b c
  have z2 := S.U_self2 L a d c
  show S.nb1 L a d c d + S.nb1 L d b c d < S.nb1 L a b c d + S.nb1 L b a d d
  rw [St.nb1_0 (u := a) (v := d) (by omega), St.nb1_0 (u := d) (v := b) (by omega), St.nb1_1 hh.2.2.2 hU]
  have := S.nb1_01 L b a d d
  omega
/-- over all triangles -/
def St.Phi (S : St) (L : Nat → Int) : Int := S.SgT (fun u v w => S.nb L u v w)
theorem St.Phi_bd (S : St) (L : Nat → Int) : 0 ≤ S.Phi L ∧ S.Phi L ≤ 64000 := by
  constructor
  · apply sumR_nonneg
    intro e _
    split
    · exact Int.le_refl _
    · exact (S.nb_bd L _ _ _).1
  · have h : S.Phi L ≤ sumR 1600 (fun _ => 40) := by
      apply sumR_le
      intro e _
      split
      · decide
      · exact (S.nb_bd L _ _ _).2
    have h2 : ∀ n : Nat, sumR n (fun _ => 40) = 40 * (n : Int) := by
      intro n
      induction n with
      | zero => rfl
      | succ n ih =>
        show sumR n (fun _ => 40) + 40 = _
        rw [ih]
        omega
    have h3 := h2 1600
    omega
theorem St.Phi_flip {S : St} (hG : S.Geo) {L : Nat → Int} (hs : S.scv L) {a b c d : Nat} (hq : S.quad a b c d) (hU : 0 < S.U L a b c d) : (S.flip a b c d).Phi L < S.Phi L := by
  obtain ⟨hh, hn, -, -, -, -⟩ := St.quad_all hG hq
  have hS := (St.flip_sum hG hq).2 (fun u v w => S.nb L u v w)
  obtain ⟨ap, wa, qu, qn, est⟩ := St.flip_st S a b c d
  have e : (S.flip a b c d).Phi L = (S.flip a b c d).SgT (fun u v w => S.nb L u v w) := by
    rw [est]
    rfl
  have h := St.nb_flip hs ⟨hq.1, hq.2.1, hq.2.2.1, hq.2.2.2.1⟩ hh hn hU
  have r1 := S.nb_rot L a b c
  have r2 := S.nb_rot L b c a
  have r3 := S.nb_rot L b a d
  have r4 := S.nb_rot L a d b
  have r5 := S.nb_rot L a d c
  have r6 := S.nb_rot L d c a
  have r7 := S.nb_rot L d b c
  have r8 := S.nb_rot L b c d
  rw [e, hS]
  show S.Phi L - (S.nb L a b c + S.nb L b c a + S.nb L c a b) - (S.nb L b a d + S.nb L a d b + S.nb L d b a) + (S.nb L a d c + S.nb L d c a + S.nb L c a d) + (S.nb L d b c + S.nb L b c d + S.nb L c d b) < S.Phi L
  omega
