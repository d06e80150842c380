/-! A POINT PUT IN: the mesh behind it. By hand. -/
theorem St.Stp.conv {T T' : St} {F F' : (Nat → Nat → Int) → Int} {n n' : Int} {Ad Rm BA BR Ad' Rm' BA' BR' : Nat → Nat → Prop} (h : T.Stp T' F n Ad Rm BA BR) (hF : ∀ g : Nat → Nat → Int, (∀ u v : Nat, g v u = -g u v) → F g = F' g) (hn : n = n') (hE : ∀ x y : Nat, x < 40 → y < 40 → (((T.E x y ∧ ¬ Rm x y) ∨ Ad x y) ↔ ((T.E x y ∧ ¬ Rm' x y) ∨ Ad' x y))) (hB : ∀ x y : Nat, x < 40 → y < 40 → (((T.bound x y ∧ ¬ BR x y) ∨ BA x y) ↔ ((T.bound x y ∧ ¬ BR' x y) ∨ BA' x y))) : T.Stp T' F' n' Ad' Rm' BA' BR' := by
  obtain ⟨h1, h2, h3, h4, h5, h6, h7, h8, h9, h10⟩ := h
  exact ⟨h1, h2, h3, h4, h5, h6, fun g hg => by rw [h7 g hg, hF g hg], by rw [h8, hn], fun x y hx hy => (h9 x y hx hy).trans (hE x y hx hy), fun x y hx hy => (h10 x y hx hy).trans (hB x y hx hy)⟩
/-- a mesh beside a point p of which no edge tells -/
def St.Pre (T : St) (p : Nat) : Prop := (T.PM ∧ T.inB ∧ T.dist ∧ T.cov ∧ T.bord) ∧ (p < 40 ∧ T.has p ∧ ∀ v : Nat, v < 40 → ¬ T.E p v ∧ ¬ T.E v p) ∧ (∀ q : Nat, q < 40 → q ≠ p → T.has q → T.onB q → ∃ v : Nat, v < 40 ∧ T.E q v ∧ ¬ T.E v q) ∧ (∀ q : Nat, q < 40 → q ≠ p → T.has q → ∃ v : Nat, v < 40 ∧ T.E q v) ∧ T.Fx ∧ (T.SgT (fun _ _ _ => 1) = 3 * (2 * (T.nV - 1) - T.Bd - 2) ∧ T.Sg T.arf = 8000000)
theorem St.nE {T : St} {x y : Nat} : ¬ T.E x y ↔ T.ap (x * 40 + y) = -1 := ⟨fun z => Classical.byContradiction (fun q => z q), fun z q => q z⟩
theorem St.Bd_E (T : St) : T.Bd = sumR 1600 (fun e => if T.E (e / 40) (e % 40) ∧ ¬ T.E (e % 40) (e / 40) then 1 else 0) := by
  unfold St.Bd
  apply sumR_congr
  intro e he
  have e1 : e / 40 * 40 + e % 40 = e := by omega
  by_cases c : T.ap e ≠ -1 ∧ T.ap (e % 40 * 40 + e / 40) = -1
  · rw [if_pos c, if_pos ⟨by unfold St.E; rw [e1]; exact c.1, St.nE.mpr c.2⟩]
  · rw [if_neg c, if_neg]
    rintro ⟨z1, z2⟩
    unfold St.E at z1
    rw [e1] at z1
    exact c ⟨z1, St.nE.mp z2⟩
/-- spokes that are there in both ways: a mesh -/
theorem St.Msh_ring {T0 T : St} {p : Nat} (h : T0.Pre p) {Nb : Nat → Prop} {Rm BA BR : Nat → Nat → Prop} {F : (Nat → Nat → Int) → Int} (k : T0.Stp T F 6 (fun x y => (x = p ∧ Nb y) ∨ (y = p ∧ Nb x)) Rm BA BR) (hF : ∀ g : Nat → Nat → Int, (∀ u v : Nat, g v u = -g u v) → F g = 0) (hin : ¬ T0.onB p) (hN : ∃ v : Nat, v < 40 ∧ Nb v) (hR : ∀ x y : Nat, x < 40 → y < 40 → Rm x y → Rm y x ∧ T0.E x y ∧ T0.E y x ∧ Nb x)
    (hB : ∀ x y : Nat, x < 40 → y < 40 → BA x y → BA y x ∧ T0.has x ∧ T0.has y ∧ ((x = p ∧ Nb y) ∨ (y = p ∧ Nb x))) (hBr : ∀ x y : Nat, x < 40 → y < 40 → ((T0.bound x y ∧ Rm x y) → BR x y) ∧ (BR x y → BR y x ∧ Rm x y)) : T.Msh := by
  obtain ⟨⟨hPM, hinB, hdi, hcv, hbd⟩, ⟨hp, sp, hpe⟩, hbn, hal, ⟨hf1, hf2⟩, hE1, hE2⟩ := h
  obtain ⟨k1, k2, k3, k4, k5, k6, k7, k8, k9, k10⟩ := k
  have ehas : ∀ q : Nat, T.has q ↔ T0.has q := fun q => by unfold St.has; rw [k4]
  have one : ∀ x y : Nat, x < 40 → y < 40 → ((T.E x y ∧ ¬ T.E y x) ↔ (T0.E x y ∧ ¬ T0.E y x)) := by
    intro x y hx hy
    rw [k9 x y hx hy, k9 y x hy hx]
    constructor
    · rintro ⟨⟨z1, z3⟩ | z1, z2⟩
      · exact ⟨z1, fun q => z2 (Or.inl ⟨q, fun r => z3 (hR _ _ hy hx r).1⟩)⟩
      · exact absurd (Or.inr (z1.elim (fun q => Or.inr q) (fun q => Or.inl q))) z2
    · rintro ⟨z1, z2⟩
      refine ⟨Or.inl ⟨z1, fun r => z2 (hR _ _ hx hy r).2.2.1⟩, ?_⟩
      rintro (⟨q, -⟩ | ⟨q, -⟩ | ⟨q, -⟩)
      · exact z2 q
      · subst q; exact (hpe x hx).2 z1
      · subst q; exact (hpe y hy).1 z1
  have ewd : ∀ x y s : Int, T.wd x y s = T0.wd x y s := fun x y s => by
    funext u v
    unfold St.wd St.Hs
    rw [k2, k3]
  have eon : ∀ u v : Nat, T.onside u v ↔ T0.onside u v := fun u v => by unfold St.onside; rw [k2, k3]
  have eoB : ∀ u : Nat, T.onB u ↔ T0.onB u := fun u => by unfold St.onB; rw [k2, k3]
  have egen : ∀ x y s : Int, T.gen x y s → T0.gen x y s := fun x y s z => by
    unfold St.gen St.Hs St.has at *
    rw [k2, k3, k4] at z
    exact z
  refine ⟨⟨?_, ?_, k1.1, k1.2.1, k1.2.2, ?_, ?_, ?_, ?_⟩, ⟨?_, ?_⟩, ?_, ?_⟩
  · intro j hj
    rw [k2, k3]
    exact hinB j hj
  · intro u v hu hv s1 s2 e1 e2
    rw [ehas] at s1 s2
    rw [k2] at e1
    rw [k3] at e2
    exact hdi u v hu hv s1 s2 e1 e2
  · intro x y s hg hi
    rw [ewd, k7 _ (fun u v => St.wd_anti T0 x y s u v), hF _ (fun u v => St.wd_anti T0 x y s u v), hcv x y s (egen x y s hg) hi]
    rfl
  · intro u v hu hv y1 y2
    rw [eon]
    have := (one u v hu hv).mp ⟨y1, St.nE.mpr y2⟩
    exact hbd u v hu hv this.1 (St.nE.mp this.2)
  · intro q hq sq ob
    rw [ehas] at sq
    rw [eoB] at ob
    have hqp : q ≠ p := fun z => hin (by rw [← z]; exact ob)
    obtain ⟨v, hv, v1, v2⟩ := hbn q hq hqp sq ob
    have := (one q v hq hv).mpr ⟨v1, v2⟩
    exact ⟨v, hv, this.1, St.nE.mp this.2⟩
  · intro q hq sq
    rw [ehas] at sq
    by_cases hqp : q = p
    · obtain ⟨v, hv, v1⟩ := hN
      exact ⟨v, hv, (k9 q v hq hv).mpr (Or.inr (Or.inl ⟨hqp, v1⟩))⟩
    · obtain ⟨v, hv, v1⟩ := hal q hq hqp sq
      by_cases c : Rm q v
      · exact ⟨p, hp, (k9 q p hq hp).mpr (Or.inr (Or.inr ⟨rfl, (hR q v hq hv c).2.2.2⟩))⟩
      · exact ⟨v, hv, (k9 q v hq hv).mpr (Or.inl ⟨v1, c⟩)⟩
  · intro x y hx hy hxy
    rw [ehas, ehas, k10 y x hy hx]
    rcases (k10 x y hx hy).mp hxy with ⟨z1, z2⟩ | z
    · obtain ⟨w1, w2, w3, w4⟩ := hf1 x y hx hy z1
      refine ⟨Or.inl ⟨w1, fun q => z2 ((hBr y x hy hx).2 q).1⟩, w2, w3, ?_⟩
      have nr : ¬ Rm x y := fun q => z2 ((hBr x y hx hy).1 ⟨z1, q⟩)
      rcases w4 with w4 | w4
      · exact Or.inl ((k9 x y hx hy).mpr (Or.inl ⟨w4, nr⟩))
      · exact Or.inr ((k9 y x hy hx).mpr (Or.inl ⟨w4, fun q => nr (hR y x hy hx q).1⟩))
    · obtain ⟨w1, w2, w3, w4⟩ := hB x y hx hy z
      exact ⟨Or.inr w1, w2, w3, Or.inl ((k9 x y hx hy).mpr (Or.inr w4))⟩
  · intro x y hx hy y1 y2
    have := (one x y hx hy).mp ⟨y1, St.nE.mpr y2⟩
    refine (k10 x y hx hy).mpr (Or.inl ⟨hf2 x y hx hy this.1 (St.nE.mp this.2), fun q => ?_⟩)
    exact this.2 (hR x y hx hy ((hBr x y hx hy).2 q).2).2.2.1
  · have e1 : T.nV = T0.nV := by
      unfold St.nV St.has
      rw [k4]
    have e2 : T.Bd = T0.Bd := by
      rw [St.Bd_E, St.Bd_E]
      apply sumR_congr
      intro e he
      have := one (e / 40) (e % 40) (by omega) (by omega)
      by_cases c : T0.E (e / 40) (e % 40) ∧ ¬ T0.E (e % 40) (e / 40)
      · rw [if_pos c, if_pos (this.mpr c)]
      · rw [if_neg c, if_neg (fun z => c (this.mp z))]
    rw [k8, e1, e2, hE1]
    omega
  · have e1 : T.arf = T0.arf := by
      funext u v
      unfold St.arf
      rw [k2, k3]
    have anti : ∀ u v : Nat, T0.arf v u = -T0.arf u v := fun u v => by unfold St.arf; omega
    rw [e1, k7 _ anti, hF _ anti, hE2]
    rfl
/-- a point on the border: two border edges for one -/
theorem St.Msh_rim {T0 T : St} {p a b c : Nat} (h : T0.Pre p) (hb3 : a < 40 ∧ b < 40 ∧ c < 40) (hn : nodup3 a b c) (hnp : a ≠ p ∧ b ≠ p ∧ c ≠ p) {F : (Nat → Nat → Int) → Int} (k : T0.Stp T F 3 (fun x y => (x = a ∧ y = p) ∨ (x = p ∧ y = b) ∨ eU c p x y) (fun x y => x = a ∧ y = b) (fun x y => T0.bound a b ∧ (eU a p x y ∨ eU b p x y)) (fun x y => T0.bound a b ∧ eU a b x y)) (hF : ∀ g : Nat → Nat → Int, (∀ u v : Nat, g v u = -g u v) → F g = -(g a b + g b p + g p a)) (h1 : T0.E a b) (h2 : ¬ T0.E b a) (hz : T0.sd3 a b p = 0) (hon : T0.onside a p ∧ T0.onside p b) : T.Msh := by
  obtain ⟨⟨hPM, hinB, hdi, hcv, hbd⟩, ⟨hp, sp, hpe⟩, hbn, hal, ⟨hf1, hf2⟩, hE1, hE2⟩ := h
  obtain ⟨k1, k2, k3, k4, k5, k6, k7, k8, k9, k10⟩ := k
  obtain ⟨ha, hb, hc⟩ := hb3
  obtain ⟨n1, n2, n3⟩ := hn
  obtain ⟨m1, m2, m3⟩ := hnp
  have hbab := hf2 a b ha hb h1 (St.nE.mp h2)
  have ehas : ∀ q : Nat, T.has q ↔ T0.has q := fun q => by unfold St.has; rw [k4]
  have one : ∀ x y : Nat, x < 40 → y < 40 → ((T.E x y ∧ ¬ T.E y x) ↔ ((T0.E x y ∧ ¬ T0.E y x) ∧ ¬ (x = a ∧ y = b)) ∨ (x = a ∧ y = p) ∨ (x = p ∧ y = b)) := by
    intro x y hx hy
    rw [k9 x y hx hy, k9 y x hy hx]
    constructor
    · rintro ⟨⟨z1, z3⟩ | z1, z2⟩
      · refine Or.inl ⟨⟨z1, fun q => z2 (Or.inl ⟨q, ?_⟩)⟩, z3⟩
        rintro ⟨r1, r2⟩
        subst r1; subst r2
        exact h2 z1
      · rcases z1 with z1 | z1 | z1
        · exact Or.inr (Or.inl z1)
        · exact Or.inr (Or.inr z1)
        · exact absurd (Or.inr (Or.inr (Or.inr (z1.elim (fun q => Or.inr ⟨q.2, q.1⟩) (fun q => Or.inl ⟨q.2, q.1⟩))))) z2
    · rintro (⟨⟨z1, z2⟩, z3⟩ | ⟨z1, z2⟩ | ⟨z1, z2⟩)
      · refine ⟨Or.inl ⟨z1, z3⟩, ?_⟩
        rintro (⟨q, -⟩ | ⟨q1, q2⟩ | ⟨q1, q2⟩ | ⟨q1, q2⟩ | ⟨q1, q2⟩)
        · exact z2 q
        · subst q2; exact (hpe y hy).1 z1
        · subst q1; exact (hpe x hx).2 z1
        · subst q2; exact (hpe y hy).1 z1
        · subst q1; exact (hpe x hx).2 z1
      · subst z1; subst z2
        refine ⟨Or.inr (Or.inl ⟨rfl, rfl⟩), ?_⟩
        rintro (⟨q, -⟩ | ⟨q1, q2⟩ | ⟨q1, q2⟩ | ⟨q1, q2⟩ | ⟨q1, q2⟩)
        · exact (hpe x hx).1 q
        · exact m1 q2
        · exact n1 q2
        · exact m3 q1.symm
        · exact n3 q2.symm
      · subst z1; subst z2
        refine ⟨Or.inr (Or.inr (Or.inl ⟨rfl, rfl⟩)), ?_⟩
        rintro (⟨q, -⟩ | ⟨q1, q2⟩ | ⟨q1, q2⟩ | ⟨q1, q2⟩ | ⟨q1, q2⟩)
        · exact (hpe y hy).2 q
        · exact n1 q1.symm
        · exact m2 q1
        · exact n2 q1
        · exact m3 q2.symm
  have ewd : ∀ x y s : Int, T.wd x y s = T0.wd x y s := fun x y s => by
    funext u v
    unfold St.wd St.Hs
    rw [k2, k3]
  have eon : ∀ u v : Nat, T.onside u v ↔ T0.onside u v := fun u v => by unfold St.onside; rw [k2, k3]
  have eoB : ∀ u : Nat, T.onB u ↔ T0.onB u := fun u => by unfold St.onB; rw [k2, k3]
  have egen : ∀ x y s : Int, T.gen x y s → T0.gen x y s := fun x y s z => by
    unfold St.gen St.Hs St.has at *
    rw [k2, k3, k4] at z
    exact z
  have eE : T.E a p ∧ T.E p b ∧ ¬ T.E p a ∧ ¬ T.E b p := by
    have o1 := (one a p ha hp).mpr (Or.inr (Or.inl ⟨rfl, rfl⟩))
    have o2 := (one p b hp hb).mpr (Or.inr (Or.inr ⟨rfl, rfl⟩))
    exact ⟨o1.1, o2.1, o1.2, o2.2⟩
  refine ⟨⟨?_, ?_, k1.1, k1.2.1, k1.2.2, ?_, ?_, ?_, ?_⟩, ⟨?_, ?_⟩, ?_, ?_⟩
  · intro j hj
    rw [k2, k3]
    exact hinB j hj
  · intro u v hu hv s1 s2 e1 e2
    rw [ehas] at s1 s2
    rw [k2] at e1
    rw [k3] at e2
    exact hdi u v hu hv s1 s2 e1 e2
  · intro x y s hg hi
    have hg0 := egen x y s hg
    have hs := hg0.1
    obtain ⟨sa, sb⟩ : T0.has a ∧ T0.has b := ⟨(hf1 a b ha hb hbab).2.1, (hf1 a b ha hb hbab).2.2.1⟩
    rw [ewd, k7 _ (fun u v => St.wd_anti T0 x y s u v), hF _ (fun u v => St.wd_anti T0 x y s u v), hcv x y s hg0 hi]
    -- on the border the crossings add up
    have e1 := hg0.2.1 a ha sa
    have e2 := hg0.2.1 b hb sb
    have e3 := hg0.2.1 p hp sp
    obtain ⟨i1, i2, i3, i4⟩ := hi
    have main : T0.wd x y s a b + T0.wd x y s b p + T0.wd x y s p a = 0 := by
      have pos : ∀ u v : Nat, T0.onside u v → 0 < T0.Hs u v x y s := by
        intro u v o
        unfold St.Hs
        rcases o with ⟨a1, a2, a3⟩ | ⟨a1, a2, a3⟩ | ⟨a1, a2, a3⟩ | ⟨a1, a2, a3⟩
        · rw [a1, a2, Int.sub_self, Int.zero_mul, Int.sub_zero]; exact Int.mul_pos (by omega) (by omega)
        · rw [a1, a2, Int.sub_self, Int.zero_mul, Int.zero_sub]; have := Int.mul_neg_of_pos_of_neg (show 0 < T0.ys v - T0.ys u by omega) (show x - s * 1000 < 0 by omega); omega
        · rw [a1, a2, Int.sub_self, Int.zero_mul, Int.sub_zero]; exact Int.mul_pos_of_neg_of_neg (by omega) (by omega)
        · rw [a1, a2, Int.sub_self, Int.zero_mul, Int.zero_sub]; have := Int.mul_neg_of_neg_of_pos (show T0.ys v - T0.ys u < 0 by omega) (show 0 < x - s * (-1000) by omega); omega
      have oab := hbd a b ha hb h1 (St.nE.mp h2)
      have pab := pos a b oab
      have pap := pos a p hon.1
      have ppb := pos p b hon.2
      have l1 : ∀ u v : Nat, 0 < T0.Hs u v x y s → T0.wd x y s u v = if s * T0.xs u < x ∧ x < s * T0.xs v then 1 else 0 := by
        intro u v z
        unfold St.wd
        by_cases c1 : s * T0.xs u < x ∧ x < s * T0.xs v
        · rw [if_pos ⟨c1.1, c1.2, z⟩, if_pos c1]
        · rw [if_neg (fun q => c1 ⟨q.1, q.2.1⟩), if_neg (by omega), if_neg c1]
      have a1 := St.wd_anti T0 x y s p b
      have a2 := St.wd_anti T0 x y s a p
      rw [l1 a b pab]
      rw [l1 p b ppb] at a1
      rw [l1 a p pap] at a2
      rw [a1, a2]
      -- the order of the places along the line
      have ord : (s * T0.xs a ≤ s * T0.xs p ∧ s * T0.xs p ≤ s * T0.xs b) ∨ (s * T0.xs b ≤ s * T0.xs p ∧ s * T0.xs p ≤ s * T0.xs a) := by
        have ml : ∀ u v : Int, u ≤ v → s * u ≤ s * v := fun u v w => Int.mul_le_mul_of_nonneg_left w (by omega)
        rcases hon.1 with ⟨y1, y2, y3⟩ | ⟨y1, y2, y3⟩ | ⟨y1, y2, y3⟩ | ⟨y1, y2, y3⟩ <;> rcases hon.2 with ⟨w1, w2, w3⟩ | ⟨w1, w2, w3⟩ | ⟨w1, w2, w3⟩ | ⟨w1, w2, w3⟩ <;> first | omega | exact Or.inl ⟨ml _ _ (by omega), ml _ _ (by omega)⟩ | exact Or.inr ⟨ml _ _ (by omega), ml _ _ (by omega)⟩ | skip
        all_goals (exfalso; unfold St.onside at oab; unfold St.sd3 St.sd at hz; omega)
      (repeat' split) <;> omega
    omega
  · intro u v hu hv y1 y2
    rw [eon]
    rcases (one u v hu hv).mp ⟨y1, St.nE.mpr y2⟩ with ⟨⟨z1, z2⟩, -⟩ | ⟨z1, z2⟩ | ⟨z1, z2⟩
    · exact hbd u v hu hv z1 (St.nE.mp z2)
    · subst z1; subst z2; exact hon.1
    · subst z1; subst z2; exact hon.2
  · intro q hq sq ob
    rw [ehas] at sq
    rw [eoB] at ob
    by_cases hqp : q = p
    · rw [hqp]
      exact ⟨b, hb, eE.2.1, St.nE.mp eE.2.2.2⟩
    · by_cases hqa : q = a
      · rw [hqa]
        exact ⟨p, hp, eE.1, St.nE.mp eE.2.2.1⟩
      · obtain ⟨v, hv, v1, v2⟩ := hbn q hq hqp sq ob
        have := (one q v hq hv).mpr (Or.inl ⟨⟨v1, v2⟩, fun z => hqa z.1⟩)
        exact ⟨v, hv, this.1, St.nE.mp this.2⟩
  · intro q hq sq
    rw [ehas] at sq
    by_cases hqp : q = p
    · rw [hqp]
      exact ⟨b, hb, eE.2.1⟩
    · by_cases hqa : q = a
      · rw [hqa]
        exact ⟨p, hp, eE.1⟩
      · obtain ⟨v, hv, v1⟩ := hal q hq hqp sq
        exact ⟨v, hv, (k9 q v hq hv).mpr (Or.inl ⟨v1, fun z => hqa z.1⟩)⟩
  · intro x y hx hy hxy
    rw [ehas, ehas, k10 y x hy hx]
    obtain ⟨-, sa, sb, -⟩ := hf1 a b ha hb hbab
    rcases (k10 x y hx hy).mp hxy with ⟨z1, z2⟩ | ⟨-, z⟩
    · obtain ⟨w1, w2, w3, w4⟩ := hf1 x y hx hy z1
      have z3 : ¬ eU a b x y := fun q => z2 ⟨hbab, q⟩
      refine ⟨Or.inl ⟨w1, fun q => z3 (q.2.elim (fun r => Or.inr ⟨r.2, r.1⟩) (fun r => Or.inl ⟨r.2, r.1⟩))⟩, w2, w3, ?_⟩
      rcases w4 with w4 | w4
      · exact Or.inl ((k9 x y hx hy).mpr (Or.inl ⟨w4, fun q => z3 (Or.inl q)⟩))
      · exact Or.inr ((k9 y x hy hx).mpr (Or.inl ⟨w4, fun q => z3 (Or.inr ⟨q.2, q.1⟩)⟩))
    · rcases z with (⟨z1, z2⟩ | ⟨z1, z2⟩) | (⟨z1, z2⟩ | ⟨z1, z2⟩)
      · rw [z1, z2]; exact ⟨Or.inr ⟨hbab, Or.inl (Or.inr ⟨rfl, rfl⟩)⟩, sa, sp, Or.inl eE.1⟩
      · rw [z1, z2]; exact ⟨Or.inr ⟨hbab, Or.inl (Or.inl ⟨rfl, rfl⟩)⟩, sp, sa, Or.inr eE.1⟩
      · rw [z1, z2]; exact ⟨Or.inr ⟨hbab, Or.inr (Or.inr ⟨rfl, rfl⟩)⟩, sb, sp, Or.inr eE.2.1⟩
      · rw [z1, z2]; exact ⟨Or.inr ⟨hbab, Or.inr (Or.inl ⟨rfl, rfl⟩)⟩, sp, sb, Or.inl eE.2.1⟩
  · intro x y hx hy y1 y2
    rw [k10 x y hx hy]
    rcases (one x y hx hy).mp ⟨y1, St.nE.mpr y2⟩ with ⟨⟨z1, z2⟩, z3⟩ | z | z
    · refine Or.inl ⟨hf2 x y hx hy z1 (St.nE.mp z2), ?_⟩
      rintro ⟨-, q | ⟨q1, q2⟩⟩
      · exact z3 q
      · subst q1; subst q2; exact h2 z1
    · exact Or.inr ⟨hbab, Or.inl (Or.inl z)⟩
    · exact Or.inr ⟨hbab, Or.inr (Or.inr z)⟩
  · have e1 : T.nV = T0.nV := by
      unfold St.nV St.has
      rw [k4]
    have e2 : T.Bd = T0.Bd + 1 := by
      rw [St.Bd_E, St.Bd_E]
      have ind : ∀ (R : St) (x y : Nat), x < 40 → y < 40 → (if R.E ((x * 40 + y) / 40) ((x * 40 + y) % 40) ∧ ¬ R.E ((x * 40 + y) % 40) ((x * 40 + y) / 40) then (1 : Int) else 0) = if R.E x y ∧ ¬ R.E y x then 1 else 0 := by
        intro R x y hx hy
        rw [show (x * 40 + y) / 40 = x by omega, show (x * 40 + y) % 40 = y by omega]
      rw [sumR_3 (f := fun e => if T0.E (e / 40) (e % 40) ∧ ¬ T0.E (e % 40) (e / 40) then 1 else 0) (k1 := a * 40 + b) (k2 := a * 40 + p) (k3 := p * 40 + b) (by omega) (by omega) (by omega) (by omega) (by omega) (by omega) (fun j hj q1 q2 q3 => by
        have := one (j / 40) (j % 40) (by omega) (by omega)
        by_cases c : T0.E (j / 40) (j % 40) ∧ ¬ T0.E (j % 40) (j / 40)
        · rw [if_pos c, if_pos (this.mpr (Or.inl ⟨c, by omega⟩))]
        · rw [if_neg c, if_neg]
          intro z
          rcases this.mp z with z | z | z
          · exact c z.1
          · omega
          · omega)]
      rw [ind T a b ha hb, ind T a p ha hp, ind T p b hp hb, ind T0 a b ha hb, ind T0 a p ha hp, ind T0 p b hp hb]
      rw [if_neg (fun z => by
        rcases (one a b ha hb).mp z with z | z | z
        · exact z.2 ⟨rfl, rfl⟩
        · exact m2 z.2
        · exact m1 z.1), if_pos ⟨h1, h2⟩, if_pos ⟨eE.1, eE.2.2.1⟩, if_neg (fun z => (hpe a ha).2 z.1), if_pos ⟨eE.2.1, eE.2.2.2⟩, if_neg (fun z => (hpe b hb).1 z.1)]
      omega
    rw [k8, e1, e2, hE1]
    omega
  · have e1 : T.arf = T0.arf := by
      funext u v
      unfold St.arf
      rw [k2, k3]
    have anti : ∀ u v : Nat, T0.arf v u = -T0.arf u v := fun u v => by unfold St.arf; omega
    have hs : T0.arf a b + T0.arf b p + T0.arf p a = T0.sd3 a b p := by
      unfold St.arf St.sd3 St.sd
      grind
    rw [e1, k7 _ anti, hF _ anti, hE2]
    omega
