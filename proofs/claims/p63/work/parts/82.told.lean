/-! WHAT A POINT PUT IN CHANGES OF WHAT WAS TOLD: fixed edges on which it lies are two. By hand. -/
/-- the place lies on the edge u v between its ends -/
def St.bt2 (S : St) (u v : Nat) (x y : Int) : Prop := S.sd u v x y = 0 ∧ (S.xs u - x) * (S.xs v - x) + (S.ys u - y) * (S.ys v - y) < 0
theorem St.bt2_sym {S : St} {u v : Nat} {x y : Int} (h : S.bt2 u v x y) : S.bt2 v u x y := by
  obtain ⟨h1, h2⟩ := h
  unfold St.sd at h1
  refine ⟨?_, ?_⟩
  · unfold St.sd; grind
  · grind
theorem St.bt2_side {S : St} {i j k : Nat} {x y : Int} (h : S.sd i j x y = 0) (h1 : 0 < S.sd j k x y) (h2 : 0 < S.sd k i x y) : S.bt2 i j x y := by
  refine ⟨h, ?_⟩
  have e1 : S.sd j k x y * (S.xs i - x) + S.sd k i x y * (S.xs j - x) = -(S.sd i j x y) * (S.xs k - x) := by unfold St.sd; grind
  have e2 : S.sd j k x y * (S.ys i - y) + S.sd k i x y * (S.ys j - y) = -(S.sd i j x y) * (S.ys k - y) := by unfold St.sd; grind
  rw [h] at e1 e2
  have e3 : S.sd j k x y * ((S.xs i - x) * (S.xs j - x) + (S.ys i - y) * (S.ys j - y)) = -(S.sd k i x y * ((S.xs j - x) * (S.xs j - x) + (S.ys j - y) * (S.ys j - y))) := by grind
  have hne : ¬ (S.xs j - x = 0 ∧ S.ys j - y = 0) := by
    intro z
    have : S.sd j k x y = 0 := by
      unfold St.sd
      rw [show x - S.xs j = 0 by omega, show y - S.ys j = 0 by omega]
      grind
    omega
  have sqp : 0 < (S.xs j - x) * (S.xs j - x) + (S.ys j - y) * (S.ys j - y) := by
    have q1 : ∀ z : Int, 0 ≤ z * z := fun z => by
      rcases Int.le_total 0 z with g | g
      · exact Int.mul_nonneg g g
      · exact Int.mul_nonneg_of_nonpos_of_nonpos g g
    have q2 : ∀ z : Int, z ≠ 0 → 0 < z * z := fun z hz => by
      have := q1 z
      have : z * z ≠ 0 := fun w => hz (by rcases Int.mul_eq_zero.mp w with g | g <;> exact g)
      omega
    have a1 := q1 (S.xs j - x)
    have a2 := q1 (S.ys j - y)
    by_cases c : S.xs j - x = 0
    · have := q2 (S.ys j - y) (fun w => hne ⟨c, w⟩)
      omega
    · have := q2 (S.xs j - x) c
      omega
  have hp := Int.mul_pos h2 sqp
  have hneg : S.sd j k x y * ((S.xs i - x) * (S.xs j - x) + (S.ys i - y) * (S.ys j - y)) < 0 := by omega
  rcases Int.lt_trichotomy ((S.xs i - x) * (S.xs j - x) + (S.ys i - y) * (S.ys j - y)) 0 with g | g | g
  · exact g
  · rw [g, Int.mul_zero] at hneg; omega
  · have := Int.mul_pos h1 g; omega
/-- bits beyond all points -/
def St.hiF (S : St) : Prop := ∀ p : Nat, p < 40 → ∀ k : Nat, 40 ≤ k → bt (S.fx p) k = false
theorem St.hiF_bnd {S : St} {a b : Nat} (ha : a < 40) (hb : b < 40) (h : S.hiF) : (S.bnd a b).hiF := by
  intro p hp k hk
  show bt (vp_updL (vp_updL S.fx a (bSet (S.fx a) b)) b (bSet (vp_updL S.fx a (bSet (S.fx a) b) b) a) p) k = false
  unfold vp_updL
  have e1 : decide (k = a) = false := decide_eq_false (by omega)
  have e2 : decide (k = b) = false := decide_eq_false (by omega)
  split
  · rw [bt_set (by omega), e1]
    split
    · rw [bt_set (by omega), e2, h a ha k hk]; rfl
    · rw [h b hb k hk]; rfl
  · split
    · rw [bt_set (by omega), e2, h a ha k hk]; rfl
    · exact h p hp k hk
theorem St.hiF_unb {S : St} {a b : Nat} (ha : a < 40) (hb : b < 40) (h : S.hiF) : (S.unb a b).hiF := by
  intro p hp k hk
  show bt (vp_updL (vp_updL S.fx a (bClr (S.fx a) b)) b (bClr (vp_updL S.fx a (bClr (S.fx a) b) b) a) p) k = false
  unfold vp_updL
  split
  · rw [bt_clr (by omega)]
    split
    · rw [bt_clr (by omega), h a ha k hk]; rfl
    · rw [h b hb k hk]; rfl
  · split
    · rw [bt_clr (by omega), h a ha k hk]; rfl
    · exact h p hp k hk
theorem St.hiF_eq {S T : St} (e : T.fx = S.fx) (h : S.hiF) : T.hiF := by
  unfold St.hiF
  rw [e]
  exact h
theorem St.hiF_cut2 {S : St} {a b p : Nat} (ha : a < 40) (hb : b < 40) (hp : p < 40) (h : S.hiF) : (S.cut2 a b p).hiF := by
  unfold St.cut2
  split
  · exact St.hiF_bnd hb hp (St.hiF_bnd ha hp (St.hiF_unb ha hb h))
  · exact h
theorem St.hiF_joi {S : St} {a b p : Nat} (ha : a < 40) (hb : b < 40) (hp : p < 40) (h : S.hiF) : (S.joi a b p).hiF := by
  unfold St.joi
  split
  · exact St.hiF_eq (St.put_fx S a b p) h
  · unfold St.cut3
    split
    · exact St.hiF_cut2 ha hb hp h
    · unfold St.spl
      refine St.hiF_eq ?_ (St.hiF_cut2 ha hb hp h)
      rw [St.put_fx, St.put_fx]
      rfl
theorem St.hiF_ins0 {S : St} {p a b c : Nat} {x y : Int} (hp : p < 40) (ha : a < 40) (hb : b < 40) (hc : c < 40) (h : S.hiF) : (S.ins0 p x y a b c).hiF := by
  unfold St.ins0
  exact St.hiF_joi hc ha hp (St.hiF_joi hb hc hp (St.hiF_joi ha hb hp (St.hiF_eq (S := S) rfl h)))
/-- what the point p at x, y makes of what was fixed -/
def St.laid (S T : St) (p : Nat) (x y : Int) : Prop := T.xs = uZ S.xs p x ∧ T.ys = uZ S.ys p y ∧ T.th = bSet S.th p ∧ ∀ u v : Nat, u < 40 → v < 40 → (T.bound u v ↔ (S.bound u v ∧ ¬ S.bt2 u v x y) ∨ (u = p ∧ ∃ w : Nat, w < 40 ∧ S.bound v w ∧ S.bt2 v w x y) ∨ (v = p ∧ ∃ w : Nat, w < 40 ∧ S.bound u w ∧ S.bt2 u w x y))
theorem St.laid_ok {S : St} (hM : S.Msh) (hq : S.wq) (h4 : S.w4) {p a b c : Nat} {x y : Int} (hp : p < 40) (hnp : ¬ S.has p) (hin : inSq x y) (hfree : ∀ q : Nat, q < 40 → S.has q → ¬ (S.xs q = x ∧ S.ys q = y)) (ha : a < 40) (hb : b < 40) (hc : c < 40) (h1 : S.ap (a * 40 + b) = (c : Int)) (s1 : 0 ≤ S.sd a b x y) (s2 : 0 ≤ S.sd b c x y) (s3 : 0 ≤ S.sd c a x y) : S.laid (S.ins0 p x y a b c) p x y := by
  obtain ⟨kM, -, -, kx, ky, kt, kB⟩ := St.ins_ok hM hq h4 hp hnp hin hfree ha hb hc h1 s1 s2 s3
  generalize S.ins0 p x y a b c = T at *
  have ex : T.xs = uZ S.xs p x := kx
  have ey : T.ys = uZ S.ys p y := ky
  have et : T.th = bSet S.th p := kt
  refine ⟨ex, ey, et, ?_⟩
  have nep : ∀ u : Nat, S.has u → u ≠ p := fun u z w => hnp (w ▸ z)
  have tp : T.has p := by unfold St.has; rw [et, bt_set (by omega)]; simp
  have px : T.xs p = x := by rw [ex, uZ_at]
  have py : T.ys p = y := by rw [ey, uZ_at]
  have oth : ∀ u : Nat, u ≠ p → T.xs u = S.xs u ∧ T.ys u = S.ys u := fun u hu => by rw [ex, ey, uZ_ne hu, uZ_ne hu]; exact ⟨rfl, rfl⟩
  obtain ⟨⟨kG, ⟨kF1, kF2⟩, -⟩⟩ := And.intro kM trivial
  have Fx := hM.2.1
  -- no edge of the new mesh has the place between its ends
  have clear : ∀ u v : Nat, u < 40 → v < 40 → T.bound u v → u ≠ p → v ≠ p → ¬ S.bt2 u v x y := by
    intro u v hu hv hb9 hup hvp hz
    obtain ⟨-, -, -, hE⟩ := kF1 u v hu hv hb9
    refine St.on_edge kG hu hv hp tp hE ⟨?_, ?_⟩
    · unfold St.sd3 St.sd
      rw [px, py, (oth u hup).1, (oth u hup).2, (oth v hvp).1, (oth v hvp).2]
      exact hz.1
    · unfold St.dot
      rw [px, py, (oth u hup).1, (oth u hup).2, (oth v hvp).1, (oth v hvp).2]
      exact hz.2
  intro u v hu hv
  rcases kB with ⟨-, -, -, kB⟩ | ⟨i, j, k, hijk, z1, z2, z3, kB⟩
  · have no : ∀ u v : Nat, u < 40 → v < 40 → S.bound u v → ¬ S.bt2 u v x y := fun u v hu hv h => clear u v hu hv ((kB u v hu hv).mpr h) (nep u (Fx.1 u v hu hv h).2.1) (nep v (Fx.1 u v hu hv h).2.2.1)
    rw [kB u v hu hv]
    constructor
    · intro h; exact Or.inl ⟨h, no u v hu hv h⟩
    · rintro (⟨h, -⟩ | ⟨-, w, hw, h, g⟩ | ⟨-, w, hw, h, g⟩)
      · exact h
      · exact absurd g (no v w hv hw h)
      · exact absurd g (no u w hu hw h)
  · have hij : i < 40 ∧ j < 40 ∧ k < 40 := by rcases hijk with ⟨rfl, rfl, rfl⟩ | ⟨rfl, rfl, rfl⟩ | ⟨rfl, rfl, rfl⟩ <;> exact ⟨by assumption, by assumption, by assumption⟩
    have bij : S.bt2 i j x y := St.bt2_side z1 z2 z3
    have no : ∀ u v : Nat, u < 40 → v < 40 → S.bound u v → S.bt2 u v x y → S.bound i j ∧ eU i j u v := by
      intro u v hu hv h g
      refine Classical.byContradiction (fun n => ?_)
      exact clear u v hu hv ((kB u v hu hv).mpr (Or.inl ⟨h, n⟩)) (nep u (Fx.1 u v hu hv h).2.1) (nep v (Fx.1 u v hu hv h).2.2.1) g
    rw [kB u v hu hv]
    constructor
    · rintro (⟨h, g⟩ | ⟨h, g⟩)
      · exact Or.inl ⟨h, fun z => g (no u v hu hv h z)⟩
      · obtain ⟨f1, f2, f3, -⟩ := Fx.1 i j hij.1 hij.2.1 h
        rcases g with (⟨rfl, rfl⟩ | ⟨rfl, rfl⟩) | (⟨rfl, rfl⟩ | ⟨rfl, rfl⟩)
        · exact Or.inr (Or.inr ⟨rfl, j, hij.2.1, h, bij⟩)
        · exact Or.inr (Or.inl ⟨rfl, j, hij.2.1, h, bij⟩)
        · exact Or.inr (Or.inr ⟨rfl, i, hij.1, f1, St.bt2_sym bij⟩)
        · exact Or.inr (Or.inl ⟨rfl, i, hij.1, f1, St.bt2_sym bij⟩)
    · rintro (⟨h, g⟩ | ⟨rfl, w, hw, h, g⟩ | ⟨rfl, w, hw, h, g⟩)
      · refine Or.inl ⟨h, fun z => g ?_⟩
        rcases z.2 with ⟨rfl, rfl⟩ | ⟨rfl, rfl⟩
        · exact bij
        · exact St.bt2_sym bij
      · obtain ⟨h2, h3⟩ := no v w hv hw h g
        refine Or.inr ⟨h2, ?_⟩
        rcases h3 with ⟨rfl, rfl⟩ | ⟨rfl, rfl⟩
        · exact Or.inl (Or.inr ⟨rfl, rfl⟩)
        · exact Or.inr (Or.inr ⟨rfl, rfl⟩)
      · obtain ⟨h2, h3⟩ := no u w hu hw h g
        refine Or.inr ⟨h2, ?_⟩
        rcases h3 with ⟨rfl, rfl⟩ | ⟨rfl, rfl⟩
        · exact Or.inl (Or.inl ⟨rfl, rfl⟩)
        · exact Or.inr (Or.inl ⟨rfl, rfl⟩)
