/-! AT FIRST: the four points, two triangles. By hand. -/
def apc (e : Nat) : Int := if e = 1 then 2 else if e = 42 then 0 else if e = 80 then 1 else if e = 2 then 3 else if e = 83 then 0 else if e = 120 then 2 else -1
/-- the state of a new mesh -/
def St.New (S : St) : Prop := S.inB ∧ S.Cor ∧ (∀ u : Nat, u < 40 → (S.has u ↔ u < 4)) ∧ (∀ e : Nat, e < 1600 → S.ap e = apc e) ∧ ∀ u v : Nat, u < 40 → v < 40 → (S.bound u v ↔ eU 0 1 u v ∨ eU 1 2 u v ∨ eU 2 3 u v ∨ eU 3 0 u v)
theorem apc_cases (e : Nat) : (e = 1 ∧ apc e = 2) ∨ (e = 42 ∧ apc e = 0) ∨ (e = 80 ∧ apc e = 1) ∨ (e = 2 ∧ apc e = 3) ∨ (e = 83 ∧ apc e = 0) ∨ (e = 120 ∧ apc e = 2) ∨ (e ≠ 1 ∧ e ≠ 42 ∧ e ≠ 80 ∧ e ≠ 2 ∧ e ≠ 83 ∧ e ≠ 120 ∧ apc e = -1) := by
  unfold apc
  (repeat' split) <;> omega
theorem St.New_E {S : St} (h : S.New) {x y : Nat} (hx : x < 40) (hy : y < 40) : S.E x y ↔ (x = 0 ∧ y = 1) ∨ (x = 1 ∧ y = 2) ∨ (x = 2 ∧ y = 0) ∨ (x = 0 ∧ y = 2) ∨ (x = 2 ∧ y = 3) ∨ (x = 3 ∧ y = 0) := by
  unfold St.E
  rw [h.2.2.2.1 _ (by omega)]
  rcases apc_cases (x * 40 + y) with ⟨z, w⟩ | ⟨z, w⟩ | ⟨z, w⟩ | ⟨z, w⟩ | ⟨z, w⟩ | ⟨z, w⟩ | ⟨z1, z2, z3, z4, z5, z6, w⟩ <;> rw [w] <;> omega
theorem St.New_sum {S : St} (h : S.New) (G : Nat → Nat → Nat → Int) : S.SgT G = G 0 1 2 + (G 1 2 0 + (G 2 0 1 + (G 0 2 3 + (G 2 3 0 + G 3 0 2)))) := by
  have e : ∀ e : Nat, e < 1600 → (if S.ap e = -1 then 0 else G (e / 40) (e % 40) (S.ap e).toNat) = (if e = 1 then G 0 1 2 else 0) + ((if e = 42 then G 1 2 0 else 0) + ((if e = 80 then G 2 0 1 else 0) + ((if e = 2 then G 0 2 3 else 0) + ((if e = 83 then G 2 3 0 else 0) + (if e = 120 then G 3 0 2 else 0))))) := by
    intro e he
    rw [h.2.2.2.1 e he]
    rcases apc_cases e with ⟨z, w⟩ | ⟨z, w⟩ | ⟨z, w⟩ | ⟨z, w⟩ | ⟨z, w⟩ | ⟨z, w⟩ | ⟨z1, z2, z3, z4, z5, z6, w⟩
    · subst z; rw [w]; simp
    · subst z; rw [w]; simp
    · subst z; rw [w]; simp
    · subst z; rw [w]; simp
    · subst z; rw [w]; simp
    · subst z; rw [w]; simp
    · rw [w]; simp [z1, z2, z3, z4, z5, z6]
  unfold St.SgT
  rw [sumR_congr e, sumR_add, sumR_add, sumR_add, sumR_add, sumR_add, sumR_ind (by decide), sumR_ind (by decide), sumR_ind (by decide), sumR_ind (by decide), sumR_ind (by decide), sumR_ind (by decide)]
theorem St.New_Msh {S : St} (h : S.New) : S.Msh := by
  have hE := fun x y hx hy => St.New_E h (x := x) (y := y) hx hy
  have hS := St.New_sum h
  obtain ⟨hinB, hc, hth, hap, hbo⟩ := id h
  obtain ⟨-, ⟨x0, y0⟩, ⟨x1, y1⟩, ⟨x2, y2⟩, x3, y3⟩ := id hc
  have v : ∀ e : Nat, e < 1600 → S.ap e = apc e := hap
  have a1 : S.ap (0 * 40 + 1) = ((2 : Nat) : Int) := v 1 (by decide)
  have a2 : S.ap (1 * 40 + 2) = ((0 : Nat) : Int) := v 42 (by decide)
  have a3 : S.ap (2 * 40 + 0) = ((1 : Nat) : Int) := v 80 (by decide)
  have a4 : S.ap (0 * 40 + 2) = ((3 : Nat) : Int) := v 2 (by decide)
  have a5 : S.ap (2 * 40 + 3) = ((0 : Nat) : Int) := v 83 (by decide)
  have a6 : S.ap (3 * 40 + 0) = ((2 : Nat) : Int) := v 120 (by decide)
  have tri : ∀ a b c : Nat, a < 40 → b < 40 → c < 40 → S.ap (a * 40 + b) = (c : Int) → (a = 0 ∧ b = 1 ∧ c = 2) ∨ (a = 1 ∧ b = 2 ∧ c = 0) ∨ (a = 2 ∧ b = 0 ∧ c = 1) ∨ (a = 0 ∧ b = 2 ∧ c = 3) ∨ (a = 2 ∧ b = 3 ∧ c = 0) ∨ (a = 3 ∧ b = 0 ∧ c = 2) := by
    intro a b c ha hb hcc hz
    rw [v _ (by omega)] at hz
    rcases apc_cases (a * 40 + b) with ⟨z, w⟩ | ⟨z, w⟩ | ⟨z, w⟩ | ⟨z, w⟩ | ⟨z, w⟩ | ⟨z, w⟩ | ⟨z1, z2, z3, z4, z5, z6, w⟩ <;> rw [w] at hz <;> omega
  have hh : ∀ u : Nat, u < 4 → S.has u := fun u hu => (hth u (by omega)).mpr hu
  have s012 : S.sd3 0 1 2 = 4000000 := by unfold St.sd3 St.sd; rw [x0, y0, x1, y1, x2, y2]; decide
  have s023 : S.sd3 0 2 3 = 4000000 := by unfold St.sd3 St.sd; rw [x0, y0, x2, y2, x3, y3]; decide
  have s120 : S.sd3 1 2 0 = 4000000 := (St.sd3_rot S 0 1 2).trans s012
  have s201 : S.sd3 2 0 1 = 4000000 := (St.sd3_rot S 1 2 0).trans s120
  have s230 : S.sd3 2 3 0 = 4000000 := (St.sd3_rot S 0 2 3).trans s023
  have s302 : S.sd3 3 0 2 = 4000000 := (St.sd3_rot S 2 3 0).trans s230
  have hpos : S.pos := by
    intro a b c ha hb hcc hz
    rcases tri a b c ha hb hcc hz with ⟨q1, q2, q3⟩ | ⟨q1, q2, q3⟩ | ⟨q1, q2, q3⟩ | ⟨q1, q2, q3⟩ | ⟨q1, q2, q3⟩ | ⟨q1, q2, q3⟩ <;> rw [q1, q2, q3]
    · exact ⟨hh 0 (by decide), hh 1 (by decide), hh 2 (by decide), by omega⟩
    · exact ⟨hh 1 (by decide), hh 2 (by decide), hh 0 (by decide), by omega⟩
    · exact ⟨hh 2 (by decide), hh 0 (by decide), hh 1 (by decide), by omega⟩
    · exact ⟨hh 0 (by decide), hh 2 (by decide), hh 3 (by decide), by omega⟩
    · exact ⟨hh 2 (by decide), hh 3 (by decide), hh 0 (by decide), by omega⟩
    · exact ⟨hh 3 (by decide), hh 0 (by decide), hh 2 (by decide), by omega⟩
  have one : ∀ x y : Nat, x < 40 → y < 40 → (S.E x y ∧ ¬ S.E y x) → (x = 0 ∧ y = 1) ∨ (x = 1 ∧ y = 2) ∨ (x = 2 ∧ y = 3) ∨ (x = 3 ∧ y = 0) := by
    rintro x y hx hy ⟨z1, z2⟩
    rw [hE x y hx hy] at z1
    rw [hE y x hy hx] at z2
    rcases z1 with ⟨q1, q2⟩ | ⟨q1, q2⟩ | ⟨q1, q2⟩ | ⟨q1, q2⟩ | ⟨q1, q2⟩ | ⟨q1, q2⟩ <;> subst q1 <;> subst q2
    · exact Or.inl ⟨rfl, rfl⟩
    · exact Or.inr (Or.inl ⟨rfl, rfl⟩)
    · exact absurd (by decide) z2
    · exact absurd (by decide) z2
    · exact Or.inr (Or.inr (Or.inl ⟨rfl, rfl⟩))
    · exact Or.inr (Or.inr (Or.inr ⟨rfl, rfl⟩))
  have nxt : ∀ q : Nat, q < 4 → ∃ w : Nat, w < 40 ∧ S.E q w ∧ ¬ S.E w q := by
    intro q hq
    rcases (show q = 0 ∨ q = 1 ∨ q = 2 ∨ q = 3 by omega) with z | z | z | z <;> rw [z]
    · exact ⟨1, by decide, (hE 0 1 (by decide) (by decide)).mpr (by decide), fun w => by exact absurd ((hE 1 0 (by decide) (by decide)).mp w) (by decide)⟩
    · exact ⟨2, by decide, (hE 1 2 (by decide) (by decide)).mpr (by decide), fun w => by exact absurd ((hE 2 1 (by decide) (by decide)).mp w) (by decide)⟩
    · exact ⟨3, by decide, (hE 2 3 (by decide) (by decide)).mpr (by decide), fun w => by exact absurd ((hE 3 2 (by decide) (by decide)).mp w) (by decide)⟩
    · exact ⟨0, by decide, (hE 3 0 (by decide) (by decide)).mpr (by decide), fun w => by exact absurd ((hE 0 3 (by decide) (by decide)).mp w) (by decide)⟩
  refine ⟨⟨hinB, ?_, ?_, ?_, hpos, ?_, ?_, ?_, ?_⟩, ⟨?_, ?_⟩, ?_, ?_⟩
  · intro p q hp hq sp sq e1 e2
    have hp4 := (hth p hp).mp sp
    have hq4 := (hth q hq).mp sq
    rcases (show p = 0 ∨ p = 1 ∨ p = 2 ∨ p = 3 by omega) with z | z | z | z <;> rcases (show q = 0 ∨ q = 1 ∨ q = 2 ∨ q = 3 by omega) with w | w | w | w <;> subst z <;> subst w <;> omega
  · intro j hj
    rw [v j hj]
    rcases apc_cases j with ⟨z, w⟩ | ⟨z, w⟩ | ⟨z, w⟩ | ⟨z, w⟩ | ⟨z, w⟩ | ⟨z, w⟩ | ⟨z1, z2, z3, z4, z5, z6, w⟩ <;> rw [w] <;> omega
  · intro a b c ha hb hcc hz
    rcases tri a b c ha hb hcc hz with ⟨q1, q2, q3⟩ | ⟨q1, q2, q3⟩ | ⟨q1, q2, q3⟩ | ⟨q1, q2, q3⟩ | ⟨q1, q2, q3⟩ | ⟨q1, q2, q3⟩ <;> rw [q1, q2, q3]
    · exact ⟨a2, a3⟩
    · exact ⟨a3, a1⟩
    · exact ⟨a1, a2⟩
    · exact ⟨a5, a6⟩
    · exact ⟨a6, a4⟩
    · exact ⟨a4, a5⟩
  · intro x y s hg hi
    have hs := hg.1
    have gx : ∀ u : Nat, u < 4 → s * S.xs u ≠ x := fun u hu => hg.2.1 u (by omega) (hh u hu)
    have gH : ∀ u w : Nat, u < 4 → w < 4 → u ≠ w → S.Hs u w x y s ≠ 0 := fun u w hu hw hn => hg.2.2 u w (by omega) (by omega) (hh u hu) (hh w hw) hn
    have t1 := St.wd_tri hs (gx 0 (by decide)) (gx 1 (by decide)) (gx 2 (by decide)) (gH 0 1 (by decide) (by decide) (by decide)) (gH 1 2 (by decide) (by decide) (by decide)) (gH 2 0 (by decide) (by decide) (by decide)) (by omega : 0 < S.sd3 0 1 2)
    have t2 := St.wd_tri hs (gx 0 (by decide)) (gx 2 (by decide)) (gx 3 (by decide)) (gH 0 2 (by decide) (by decide) (by decide)) (gH 2 3 (by decide) (by decide) (by decide)) (gH 3 0 (by decide) (by decide) (by decide)) (by omega : 0 < S.sd3 0 2 3)
    have an := S.Hs_anti 0 2 x y s
    have gd := gH 0 2 (by decide) (by decide) (by decide)
    obtain ⟨i1, i2, i3, i4⟩ := hi
    have p1 : 0 < S.Hs 0 1 x y s := by unfold St.Hs; rw [x0, y0, x1, y1]; omega
    have p2 : 0 < S.Hs 1 2 x y s := by unfold St.Hs; rw [x1, y1, x2, y2]; omega
    have p3 : 0 < S.Hs 2 3 x y s := by unfold St.Hs; rw [x2, y2, x3, y3]; omega
    have p4 : 0 < S.Hs 3 0 x y s := by unfold St.Hs; rw [x3, y3, x0, y0]; omega
    have e := hS (fun u w _ => S.wd x y s u w)
    have e' : S.Sg (S.wd x y s) = S.wd x y s 0 1 + (S.wd x y s 1 2 + (S.wd x y s 2 0 + (S.wd x y s 0 2 + (S.wd x y s 2 3 + S.wd x y s 3 0)))) := e
    rw [e']
    by_cases c : 0 < S.Hs 2 0 x y s
    · rw [if_pos ⟨p1, p2, c⟩] at t1
      rw [if_neg (fun z => by have := z.1; omega)] at t2
      omega
    · rw [if_neg (fun z => c z.2.2)] at t1
      rw [if_pos ⟨by omega, p3, p4⟩] at t2
      omega
  · intro a b ha hb z1 z2
    unfold St.onside
    rcases one a b ha hb ⟨z1, St.nE.mpr z2⟩ with ⟨q1, q2⟩ | ⟨q1, q2⟩ | ⟨q1, q2⟩ | ⟨q1, q2⟩ <;> rw [q1, q2] <;> omega
  · intro q hq sq _
    obtain ⟨w, w1, w2, w3⟩ := nxt q ((hth q hq).mp sq)
    exact ⟨w, w1, w2, St.nE.mp w3⟩
  · intro q hq sq
    obtain ⟨w, w1, w2, -⟩ := nxt q ((hth q hq).mp sq)
    exact ⟨w, w1, w2⟩
  · intro x y hx hy hxy
    rw [hbo x y hx hy] at hxy
    rw [hbo y x hy hx, hth x hx, hth y hy]
    have k1 := hE x y hx hy
    have k2 := hE y x hy hx
    rcases hxy with (⟨q1, q2⟩ | ⟨q1, q2⟩) | (⟨q1, q2⟩ | ⟨q1, q2⟩) | (⟨q1, q2⟩ | ⟨q1, q2⟩) | (⟨q1, q2⟩ | ⟨q1, q2⟩) <;> subst q1 <;> subst q2
    · exact ⟨by decide, by decide, by decide, Or.inl (k1.mpr (by decide))⟩
    · exact ⟨by decide, by decide, by decide, Or.inr (k2.mpr (by decide))⟩
    · exact ⟨by decide, by decide, by decide, Or.inl (k1.mpr (by decide))⟩
    · exact ⟨by decide, by decide, by decide, Or.inr (k2.mpr (by decide))⟩
    · exact ⟨by decide, by decide, by decide, Or.inl (k1.mpr (by decide))⟩
    · exact ⟨by decide, by decide, by decide, Or.inr (k2.mpr (by decide))⟩
    · exact ⟨by decide, by decide, by decide, Or.inl (k1.mpr (by decide))⟩
    · exact ⟨by decide, by decide, by decide, Or.inr (k2.mpr (by decide))⟩
  · intro x y hx hy z1 z2
    have := one x y hx hy ⟨z1, St.nE.mpr z2⟩
    rw [hbo x y hx hy]
    rcases this with ⟨q1, q2⟩ | ⟨q1, q2⟩ | ⟨q1, q2⟩ | ⟨q1, q2⟩ <;> subst q1 <;> subst q2 <;> decide
  · have e1 : S.nV = 4 := by
      have e : S.nV = sumR 40 (fun k => if k < 4 then 1 else 0) := sumR_congr (fun k hk => by
        by_cases c : k < 4
        · rw [if_pos ((hth k hk).mpr c), if_pos c]
        · rw [if_neg (fun z => c ((hth k hk).mp z)), if_neg c])
      rw [e]
      rfl
    have e2 : S.Bd = 4 := by
      have e : ∀ e : Nat, e < 1600 → (if S.E (e / 40) (e % 40) ∧ ¬ S.E (e % 40) (e / 40) then (1 : Int) else 0) = (if e = 1 then 1 else 0) + ((if e = 42 then 1 else 0) + ((if e = 83 then 1 else 0) + (if e = 120 then 1 else 0))) := by
        intro e he
        have k1 := hE (e / 40) (e % 40) (by omega) (by omega)
        have k2 := hE (e % 40) (e / 40) (by omega) (by omega)
        by_cases c : S.E (e / 40) (e % 40) ∧ ¬ S.E (e % 40) (e / 40)
        · rw [if_pos c]
          have := one _ _ (by omega) (by omega) c
          rcases (show e = 1 ∨ e = 42 ∨ e = 83 ∨ e = 120 by omega) with z | z | z | z <;> subst z <;> decide
        · rw [if_neg c]
          have d1 : e ≠ 1 := fun z => by subst z; exact c ⟨k1.mpr (by decide), fun w => absurd (k2.mp w) (by decide)⟩
          have d2 : e ≠ 42 := fun z => by subst z; exact c ⟨k1.mpr (by decide), fun w => absurd (k2.mp w) (by decide)⟩
          have d3 : e ≠ 83 := fun z => by subst z; exact c ⟨k1.mpr (by decide), fun w => absurd (k2.mp w) (by decide)⟩
          have d4 : e ≠ 120 := fun z => by subst z; exact c ⟨k1.mpr (by decide), fun w => absurd (k2.mp w) (by decide)⟩
          rw [if_neg d1, if_neg d2, if_neg d3, if_neg d4]
          rfl
      rw [St.Bd_E, sumR_congr e, sumR_add, sumR_add, sumR_add, sumR_ind (by decide), sumR_ind (by decide), sumR_ind (by decide), sumR_ind (by decide)]
      rfl
    rw [hS, e1, e2]
    rfl
  · have e := hS (fun u w _ => S.arf u w)
    have e' : S.Sg S.arf = S.arf 0 1 + (S.arf 1 2 + (S.arf 2 0 + (S.arf 0 2 + (S.arf 2 3 + S.arf 3 0)))) := e
    rw [e']
    unfold St.arf
    rw [x0, y0, x1, y1, x2, y2, x3, y3]
    decide
theorem St.New_Del {S : St} (h : S.New) : S.Del := by
  have hE := fun x y hx hy => St.New_E h (x := x) (y := y) hx hy
  obtain ⟨hinB, hc, hth, hap, hbo⟩ := id h
  obtain ⟨-, ⟨x0, y0⟩, ⟨x1, y1⟩, ⟨x2, y2⟩, x3, y3⟩ := id hc
  intro x y hxy hy z1 z2 _
  have k1 := (hE x y (by omega) hy).mp z1
  have k2 := (hE y x hy (by omega)).mp z2
  obtain ⟨q1, q2⟩ : x = 0 ∧ y = 2 := by omega
  subst q1
  subst q2
  have a3 : S.ap (2 * 40 + 0) = ((1 : Nat) : Int) := hap 80 (by decide)
  have a4 : S.ap (0 * 40 + 2) = ((3 : Nat) : Int) := hap 2 (by decide)
  rw [a3, a4, Int.toNat_natCast, Int.toNat_natCast]
  right
  constructor
  · unfold St.U St.liR St.sd3 St.sd
    rw [x0, y0, x1, y1, x2, y2, x3, y3]
    decide
  · left
    have e1 : S.ahead 0 2 = 0 := by
      unfold St.ahead
      rw [x0, x2, if_neg (by decide), if_pos (by decide)]
    have e2 : S.ahead 3 1 = 3 := by
      unfold St.ahead
      rw [x3, x1, if_neg (by decide), if_pos (by decide)]
    have e3 : S.ahead 0 3 = 0 := by
      unfold St.ahead
      rw [x0, x3, y0, y3, if_pos rfl, if_pos (by decide)]
    rw [e1, e2, e3]
