/-! STEPS: what a triangle taken away, a triangle put, an edge told anew change. By hand. -/
abbrev St.E (S : St) (x y : Nat) : Prop := S.ap (x * 40 + y) ≠ -1
/-- from T to T': places and points as they were; what waits; sums; edges and fixed ones -/
def St.Stp (T T' : St) (F : (Nat → Nat → Int) → Int) (n : Int) (Ad Rm BA BR : Nat → Nat → Prop) : Prop :=
  T'.PM ∧ T'.xs = T.xs ∧ T'.ys = T.ys ∧ T'.th = T.th ∧ T'.wq ∧ (T.w4 → T'.w4) ∧ (∀ g : Nat → Nat → Int, (∀ u v : Nat, g v u = -g u v) → T'.Sg g = T.Sg g + F g) ∧ T'.SgT (fun _ _ _ => 1) = T.SgT (fun _ _ _ => 1) + n ∧
  (∀ x y : Nat, x < 40 → y < 40 → (T'.E x y ↔ (T.E x y ∧ ¬ Rm x y) ∨ Ad x y)) ∧ (∀ x y : Nat, x < 40 → y < 40 → (T'.bound x y ↔ (T.bound x y ∧ ¬ BR x y) ∨ BA x y))
theorem St.Stp.comp {T T' T'' : St} {F F' : (Nat → Nat → Int) → Int} {n n' : Int} {Ad Rm BA BR Ad' Rm' BA' BR' : Nat → Nat → Prop} (h : T.Stp T' F n Ad Rm BA BR) (k : T'.Stp T'' F' n' Ad' Rm' BA' BR') : T.Stp T'' (fun g => F g + F' g) (n + n') (fun x y => (Ad x y ∧ ¬ Rm' x y) ∨ Ad' x y) (fun x y => Rm x y ∨ Rm' x y) (fun x y => (BA x y ∧ ¬ BR' x y) ∨ BA' x y) (fun x y => BR x y ∨ BR' x y) := by
  obtain ⟨h1, h2, h3, h4, h5, h6, h7, h8, h9, h10⟩ := h
  obtain ⟨k1, k2, k3, k4, k5, k6, k7, k8, k9, k10⟩ := k
  refine ⟨k1, k2.trans h2, k3.trans h3, k4.trans h4, k5, fun z => k6 (h6 z), fun g hg => ?_, ?_, fun x y hx hy => ?_, fun x y hx hy => ?_⟩
  · rw [k7 g hg, h7 g hg]
    show T.Sg g + F g + F' g = T.Sg g + (F g + F' g)
    omega
  · rw [k8, h8]
    omega
  · rw [k9 x y hx hy, h9 x y hx hy]
    show _ ↔ (T.E x y ∧ ¬ (Rm x y ∨ Rm' x y)) ∨ ((Ad x y ∧ ¬ Rm' x y) ∨ Ad' x y)
    constructor
    · rintro (⟨⟨z1, z2⟩ | z1, z3⟩ | z)
      · exact Or.inl ⟨z1, fun z => z.elim z2 z3⟩
      · exact Or.inr (Or.inl ⟨z1, z3⟩)
      · exact Or.inr (Or.inr z)
    · rintro (⟨z1, z2⟩ | ⟨z1, z2⟩ | z)
      · exact Or.inl ⟨Or.inl ⟨z1, fun z => z2 (Or.inl z)⟩, fun z => z2 (Or.inr z)⟩
      · exact Or.inl ⟨Or.inr z1, z2⟩
      · exact Or.inr z
  · rw [k10 x y hx hy, h10 x y hx hy]
    show _ ↔ (T.bound x y ∧ ¬ (BR x y ∨ BR' x y)) ∨ ((BA x y ∧ ¬ BR' x y) ∨ BA' x y)
    constructor
    · rintro (⟨⟨z1, z2⟩ | z1, z3⟩ | z)
      · exact Or.inl ⟨z1, fun z => z.elim z2 z3⟩
      · exact Or.inr (Or.inl ⟨z1, z3⟩)
      · exact Or.inr (Or.inr z)
    · rintro (⟨z1, z2⟩ | ⟨z1, z2⟩ | z)
      · exact Or.inl ⟨Or.inl ⟨z1, fun z => z2 (Or.inl z)⟩, fun z => z2 (Or.inr z)⟩
      · exact Or.inl ⟨Or.inr z1, z2⟩
      · exact Or.inr z
/-- one of three edges -/
abbrev e3 (a b c x y : Nat) : Prop := (x = a ∧ y = b) ∨ (x = b ∧ y = c) ∨ (x = c ∧ y = a)
abbrev no2 : Nat → Nat → Prop := fun _ _ => False
theorem St.Stp_strip {T : St} (h : T.PM) (hq : T.wq) {a b c : Nat} (ha : a < 40) (hb : b < 40) (hc : c < 40) (h1 : T.ap (a * 40 + b) = (c : Int)) : T.Stp (T.strip a b c) (fun g => -(g a b + g b c + g c a)) (-3) no2 (e3 a b c) no2 no2 := by
  obtain ⟨hA, hcy, hp⟩ := id h
  obtain ⟨k1, k2⟩ := hcy a b c ha hb hc h1
  obtain ⟨g1, g2, g3, g4⟩ := hp a b c ha hb hc h1
  obtain ⟨n1, n2, n3⟩ := St.pos_ne g4
  have eap : ∀ x y : Nat, x < 40 → y < 40 → (T.strip a b c).ap (x * 40 + y) = if e3 a b c x y then -1 else T.ap (x * 40 + y) := by
    intro x y hx hy
    rw [St.strip_ap]
    by_cases c1 : e3 a b c x y
    · rw [if_pos c1]
      rcases c1 with c1 | c1 | c1
      · rw [if_neg (by omega), if_neg (by omega), if_pos (by omega)]
      · rw [if_neg (by omega), if_pos (by omega)]
      · rw [if_pos (by omega)]
    · rw [if_neg c1, if_neg (by omega), if_neg (by omega), if_neg (by omega)]
  refine ⟨St.PM_strip h ha hb hc h1, rfl, rfl, rfl, hq, ?_, fun g _ => ?_, ?_, fun x y hx hy => ?_, fun x y _ _ => ?_⟩
  · intro h4 x y hxy hy q1 q2 q3 q4
    have ex := eap x y (by omega) hy
    have ey := eap y x hy (by omega)
    have d1 : ¬ e3 a b c x y := fun z => q1 (by rw [ex, if_pos z])
    have d2 : ¬ e3 a b c y x := fun z => q2 (by rw [ey, if_pos z])
    rw [if_neg d1] at ex
    rw [if_neg d2] at ey
    rw [ex] at q1 q4
    rw [ey] at q2 q4
    exact h4 x y hxy hy q1 q2 q3 q4
  · rw [St.Sg_T, St.SgT_strip ha hb hc ⟨n1, n2, n3⟩ h1 k1 k2, ← St.Sg_T]
    show T.Sg g - g a b - g b c - g c a = T.Sg g + -(g a b + g b c + g c a)
    omega
  · rw [St.SgT_strip ha hb hc ⟨n1, n2, n3⟩ h1 k1 k2]
    omega
  · unfold St.E
    rw [eap x y hx hy]
    by_cases c1 : e3 a b c x y
    · rw [if_pos c1]
      exact ⟨fun z => absurd rfl z, fun z => z.elim (fun q => absurd c1 q.2) (fun q => q.elim)⟩
    · rw [if_neg c1]
      exact ⟨fun z => Or.inl ⟨z, c1⟩, fun z => z.elim (fun q => q.1) (fun q => q.elim)⟩
  · exact ⟨fun z => Or.inl ⟨z, fun q => q⟩, fun z => z.elim (fun q => q.1) (fun q => q.elim)⟩
theorem St.Stp_put {T : St} (h : T.PM) (hq : T.wq) {a b c : Nat} (ha : a < 40) (hb : b < 40) (hc : c < 40) (h1 : T.ap (a * 40 + b) = -1) (h2 : T.ap (b * 40 + c) = -1) (h3 : T.ap (c * 40 + a) = -1) (sa : T.has a) (sb : T.has b) (sc : T.has c) (hpos : 0 < T.sd3 a b c) : T.Stp (T.put a b c) (fun g => g a b + g b c + g c a) 3 (e3 a b c) no2 no2 no2 := by
  obtain ⟨n1, n2, n3⟩ := St.pos_ne hpos
  have hge := St.put_geo T a b c
  obtain ⟨hw, w1, w2, w3⟩ := St.put_wq hq ha hb hc ⟨n1, n2, n3⟩
  obtain ⟨wa, qu, qn, est⟩ := St.put_st T a b c
  have eap0 : (T.put a b c).ap = (T.lay a b c).ap := show (T.put a b c).geo.ap = (T.lay a b c).geo.ap from congrArg St.ap hge
  have eap : ∀ x y : Nat, x < 40 → y < 40 → ¬ e3 a b c x y → (T.put a b c).ap (x * 40 + y) = T.ap (x * 40 + y) := by
    intro x y hx hy c1
    rw [eap0, St.lay_ap, if_neg (by omega), if_neg (by omega), if_neg (by omega)]
  have eap1 : ∀ x y : Nat, x < 40 → y < 40 → e3 a b c x y → (T.put a b c).ap (x * 40 + y) ≠ -1 := by
    intro x y hx hy c1
    rw [eap0, St.lay_ap]
    rcases c1 with c1 | c1 | c1
    · rw [if_neg (by omega), if_neg (by omega), if_pos (by omega)]; omega
    · rw [if_neg (by omega), if_pos (by omega)]; omega
    · rw [if_pos (by omega)]; omega
  have esum : ∀ G : Nat → Nat → Nat → Int, (T.put a b c).SgT G = T.SgT G + G a b c + G b c a + G c a b := fun G => (St.SgT_geo hge G).trans (St.SgT_lay ha hb hc ⟨n1, n2, n3⟩ h1 h2 h3 G)
  refine ⟨St.PM_geo hge (St.PM_lay h ha hb hc h1 h2 h3 sa sb sc hpos), by rw [est]; rfl, by rw [est]; rfl, by rw [est]; rfl, hw.1, ?_, fun g _ => ?_, ?_, fun x y hx hy => ?_, fun x y _ _ => ?_⟩
  · intro h4 x y hxy hy q1 q2 q3 q4
    left
    by_cases c1 : e3 a b c x y
    · rcases c1 with ⟨z1, z2⟩ | ⟨z1, z2⟩ | ⟨z1, z2⟩
      · subst z1; subst z2; exact St.wtu_lt hxy w1
      · subst z1; subst z2; exact St.wtu_lt hxy w2
      · subst z1; subst z2; exact St.wtu_lt hxy w3
    · by_cases c2 : e3 a b c y x
      · rcases c2 with ⟨z1, z2⟩ | ⟨z1, z2⟩ | ⟨z1, z2⟩
        · subst z1; subst z2; exact St.wtu_lt hxy (St.wtu_sym n1 w1)
        · subst z1; subst z2; exact St.wtu_lt hxy (St.wtu_sym n2 w2)
        · subst z1; subst z2; exact St.wtu_lt hxy (St.wtu_sym n3 w3)
      · have ex := eap x y (by omega) hy c1
        have ey := eap y x hy (by omega) c2
        rw [ex] at q1 q4
        rw [ey] at q2 q4
        have q3' : ¬ T.bound x y := by rw [est] at q3; exact q3
        have q4' : ¬ T.alw x y (T.ap (x * 40 + y)).toNat (T.ap (y * 40 + x)).toNat := by rw [est] at q4; exact q4
        exact hw.2.1 x y ((h4 x y hxy hy q1 q2 q3' q4').resolve_right (fun z => z))
  · rw [St.Sg_T, esum, ← St.Sg_T]
    show T.Sg g + g a b + g b c + g c a = T.Sg g + (g a b + g b c + g c a)
    omega
  · rw [esum]
    omega
  · by_cases c1 : e3 a b c x y
    · exact ⟨fun _ => Or.inr c1, fun _ => eap1 x y hx hy c1⟩
    · unfold St.E
      rw [eap x y hx hy c1]
      exact ⟨fun z => Or.inl ⟨z, fun q => q⟩, fun z => z.elim (fun q => q.1) (fun q => absurd q c1)⟩
  · rw [est]
    exact ⟨fun z => Or.inl ⟨z, fun q => q⟩, fun z => z.elim (fun q => q.1) (fun q => q.elim)⟩
/-- one edge, told in either way -/
abbrev eU (a b x y : Nat) : Prop := (x = a ∧ y = b) ∨ (x = b ∧ y = a)
theorem St.bnd_bt (S : St) {a b : Nat} (ha : a < 40) (hb : b < 40) (hn : a ≠ b) (x y : Nat) : (S.bnd a b).bound x y ↔ S.bound x y ∨ eU a b x y := by
  show bt (vp_updL (vp_updL S.fx a (bSet (S.fx a) b)) b (bSet (vp_updL S.fx a (bSet (S.fx a) b) b) a) x) y = true ↔ _
  rw [vpL_ne (show b ≠ a from fun z => hn z.symm)]
  by_cases c1 : x = b
  · subst c1
    rw [vpL_at, bt_set (by omega)]
    simp only [Bool.or_eq_true, decide_eq_true_eq]
    constructor
    · rintro (z | z)
      · exact Or.inl z
      · exact Or.inr (Or.inr ⟨rfl, z⟩)
    · rintro (z | ⟨z, -⟩ | ⟨-, z⟩)
      · exact Or.inl z
      · exact absurd z.symm hn
      · exact Or.inr z
  · rw [vpL_ne c1]
    by_cases c2 : x = a
    · subst c2
      rw [vpL_at, bt_set (by omega)]
      simp only [Bool.or_eq_true, decide_eq_true_eq]
      constructor
      · rintro (z | z)
        · exact Or.inl z
        · exact Or.inr (Or.inl ⟨rfl, z⟩)
      · rintro (z | ⟨-, z⟩ | ⟨z, -⟩)
        · exact Or.inl z
        · exact Or.inr z
        · exact absurd z c1
    · rw [vpL_ne c2]
      constructor
      · exact fun z => Or.inl z
      · rintro (z | ⟨z, -⟩ | ⟨z, -⟩)
        · exact z
        · exact absurd z c2
        · exact absurd z c1
theorem St.unb_bt (S : St) {a b : Nat} (ha : a < 40) (hb : b < 40) (hn : a ≠ b) (x y : Nat) : (S.unb a b).bound x y ↔ S.bound x y ∧ ¬ eU a b x y := by
  show bt (vp_updL (vp_updL S.fx a (bClr (S.fx a) b)) b (bClr (vp_updL S.fx a (bClr (S.fx a) b) b) a) x) y = true ↔ _
  rw [vpL_ne (show b ≠ a from fun z => hn z.symm)]
  by_cases c1 : x = b
  · subst c1
    rw [vpL_at, bt_clr (by omega)]
    simp only [Bool.and_eq_true, Bool.not_eq_true', decide_eq_false_iff_not]
    constructor
    · rintro ⟨z1, z2⟩
      exact ⟨z1, fun z => z.elim (fun q => hn q.1.symm) (fun q => z2 q.2)⟩
    · rintro ⟨z1, z2⟩
      exact ⟨z1, fun z => z2 (Or.inr ⟨rfl, z⟩)⟩
  · rw [vpL_ne c1]
    by_cases c2 : x = a
    · subst c2
      rw [vpL_at, bt_clr (by omega)]
      simp only [Bool.and_eq_true, Bool.not_eq_true', decide_eq_false_iff_not]
      constructor
      · rintro ⟨z1, z2⟩
        exact ⟨z1, fun z => z.elim (fun q => z2 q.2) (fun q => c1 q.1)⟩
      · rintro ⟨z1, z2⟩
        exact ⟨z1, fun z => z2 (Or.inl ⟨rfl, z⟩)⟩
    · rw [vpL_ne c2]
      exact ⟨fun z => ⟨z, fun q => q.elim (fun r => c2 r.1) (fun r => c1 r.1)⟩, fun z => z.1⟩
/-- a fixed edge that is two from now on -/
theorem St.Stp_cut2 {T : St} (h : T.PM) (hq : T.wq) {a b p : Nat} (ha : a < 40) (hb : b < 40) (hp : p < 40) (hn : nodup3 a b p) (hno : ¬ T.E a b) : T.Stp (T.cut2 a b p) (fun _ => 0) 0 no2 no2 (fun x y => T.bound a b ∧ (eU a p x y ∨ eU b p x y)) (fun x y => T.bound a b ∧ eU a b x y) := by
  obtain ⟨n1, n2, n3⟩ := hn
  by_cases c0 : T.bound a b
  · rw [St.cut2_1 c0]
    have hbt : ∀ x y : Nat, (((T.unb a b).bnd a p).bnd b p).bound x y ↔ (T.bound x y ∧ ¬ (T.bound a b ∧ eU a b x y)) ∨ (T.bound a b ∧ (eU a p x y ∨ eU b p x y)) := by
      intro x y
      rw [St.bnd_bt _ hb hp n2, St.bnd_bt _ ha hp (fun z => n3 z.symm), St.unb_bt _ ha hb n1]
      constructor
      · rintro ((⟨z1, z2⟩ | z) | z)
        · exact Or.inl ⟨z1, fun q => z2 q.2⟩
        · exact Or.inr ⟨c0, Or.inl z⟩
        · exact Or.inr ⟨c0, Or.inr z⟩
      · rintro (⟨z1, z2⟩ | ⟨-, z | z⟩)
        · exact Or.inl (Or.inl ⟨z1, fun q => z2 ⟨c0, q⟩⟩)
        · exact Or.inl (Or.inr z)
        · exact Or.inr z
    refine ⟨St.PM_geo (St.geo_mk rfl rfl rfl rfl) h, rfl, rfl, rfl, hq, ?_, fun g _ => ?_, ?_, fun x y _ _ => ?_, fun x y _ _ => hbt x y⟩
    · intro h4 x y hxy hy q1 q2 q3 q4
      rw [hbt] at q3
      by_cases c1 : T.bound x y
      · exfalso
        have c2 : eU a b x y := by
          apply Classical.byContradiction
          intro z
          exact q3 (Or.inl ⟨c1, fun q => z q.2⟩)
        rcases c2 with ⟨z1, z2⟩ | ⟨z1, z2⟩
        · subst z1; subst z2; exact hno q1
        · subst z1; subst z2; exact hno q2
      · exact h4 x y hxy hy q1 q2 c1 q4
    · show T.Sg g = T.Sg g + 0
      omega
    · show T.SgT (fun _ _ _ => 1) = T.SgT (fun _ _ _ => 1) + 0
      omega
    · exact ⟨fun z => Or.inl ⟨z, fun q => q⟩, fun z => z.elim (fun q => q.1) (fun q => q.elim)⟩
  · rw [St.cut2_0 c0]
    refine ⟨h, rfl, rfl, rfl, hq, fun z => z, fun g _ => ?_, ?_, fun x y _ _ => ?_, fun x y _ _ => ?_⟩
    · show T.Sg g = T.Sg g + 0
      omega
    · omega
    · exact ⟨fun z => Or.inl ⟨z, fun q => q⟩, fun z => z.elim (fun q => q.1) (fun q => q.elim)⟩
    · exact ⟨fun z => Or.inl ⟨z, fun q => c0 q.1⟩, fun z => z.elim (fun q => q.1) (fun q => absurd q.1 c0)⟩
/-- p lies on the line from a to b, between both -/
abbrev St.btw (S : St) (a b p : Nat) : Prop := S.sd3 a b p = 0 ∧ ∀ d : Nat, 0 < S.sd3 b a d → 0 < S.sd3 a d p ∧ 0 < S.sd3 d b p
abbrev ePut (u v p x y : Nat) : Prop := e3 u v p x y
/-- a point joined to a side: the three ways -/
theorem St.Stp_joi {T : St} (h : T.PM) (hq : T.wq) {u v p : Nat} (hu : u < 40) (hv : v < 40) (hp : p < 40) (su : T.has u) (sv : T.has v) (sp : T.has p) (hn : nodup3 u v p) (z1 : ¬ T.E u v) (z2 : ¬ T.E v p) (z3 : ¬ T.E p u) (hz : 0 < T.sd3 u v p ∨ (T.btw u v p ∧ ∀ d : Nat, d < 40 → 0 < T.sd3 v u d → T.E v u → T.ap (v * 40 + u) = (d : Int) → ¬ T.E d p ∧ ¬ T.E p d)) :
    (0 < T.sd3 u v p ∧ T.Stp (T.joi u v p) (fun g => g u v + g v p + g p u) 3 (e3 u v p) no2 no2 no2) ∨
    (T.btw u v p ∧ T.ap (v * 40 + u) = -1 ∧ T.Stp (T.joi u v p) (fun _ => 0) 0 no2 no2 (fun x y => T.bound u v ∧ (eU u p x y ∨ eU v p x y)) (fun x y => T.bound u v ∧ eU u v x y)) ∨
    (T.btw u v p ∧ ∃ d : Nat, d < 40 ∧ T.ap (v * 40 + u) = (d : Int) ∧ 0 < T.sd3 v u d ∧ T.has d ∧ T.E u d ∧ T.E d v ∧ d ≠ u ∧ d ≠ v ∧ d ≠ p ∧ T.Stp (T.joi u v p) (fun g => g u v + g v p + g p u) 3 (fun x y => e3 u d p x y ∨ e3 d v p x y) (e3 v u d) (fun x y => T.bound u v ∧ (eU u p x y ∨ eU v p x y)) (fun x y => T.bound u v ∧ eU u v x y)) := by
  have m1 : ∀ x y : Nat, ¬ T.E x y → T.ap (x * 40 + y) = -1 := fun x y z => Classical.byContradiction (fun q => z q)
  rcases Int.lt_or_le 0 (T.sd3 u v p) with c0 | c0
  · left
    rw [St.joi_in c0]
    exact ⟨c0, St.Stp_put h hq hu hv hp (m1 _ _ z1) (m1 _ _ z2) (m1 _ _ z3) su sv sp c0⟩
  · right
    obtain ⟨hb, hd⟩ := hz.resolve_left (by omega)
    rw [St.joi_on (by omega)]
    have hcut := St.Stp_cut2 h hq hu hv hp hn z1
    by_cases c1 : T.ap (v * 40 + u) = -1
    · left
      rw [St.cut3_0 c1]
      exact ⟨hb, c1, hcut⟩
    · right
      refine ⟨hb, ?_⟩
      obtain ⟨hA, hcy, hpo⟩ := id h
      have b1 := hA (v * 40 + u) (by omega)
      obtain ⟨d, hd0⟩ := Int.eq_ofNat_of_zero_le (show 0 ≤ T.ap (v * 40 + u) by omega)
      have hd4 : d < 40 := by omega
      obtain ⟨k1, k2⟩ := hcy v u d hv hu hd4 hd0
      obtain ⟨g1, g2, g3, g4⟩ := hpo v u d hv hu hd4 hd0
      obtain ⟨n1, n2, n3⟩ := St.pos_ne g4
      obtain ⟨y1, y2⟩ := hd d hd4 g4 c1 hd0
      obtain ⟨p1, p2⟩ := hb.2 d g4
      have hdp : d ≠ p := fun z => by
        subst z
        rw [St.sd3_self2] at p1
        omega
      refine ⟨d, hd4, hd0, g4, g3, by unfold St.E; omega, by unfold St.E; omega, fun z => n2 z.symm, n3, hdp, ?_⟩
      rw [St.cut3_1 c1, hd0, Int.toNat_natCast]
      have hap : (T.cut2 u v p).ap = T.ap := St.cut2_ap T u v p
      have hcx : (T.cut2 u v p).sd3 = T.sd3 := by
        unfold St.sd3 St.sd
        rw [hcut.2.1, hcut.2.2.1]
      have hch : (T.cut2 u v p).th = T.th := hcut.2.2.2.1
      have s1 := St.Stp_strip hcut.1 hcut.2.2.2.2.1 hv hu hd4 (by rw [hap]; exact hd0)
      have s1E := s1.2.2.2.2.2.2.2.2.1
      have s1n : ∀ x y : Nat, x < 40 → y < 40 → ¬ T.E x y → ((T.cut2 u v p).strip v u d).ap (x * 40 + y) = -1 := by
        intro x y hx hy z
        apply Classical.byContradiction
        intro q
        rcases (s1E x y hx hy).mp q with ⟨q1, -⟩ | q1
        · apply z; unfold St.E at q1 ⊢; rw [hap] at q1; exact q1
        · exact q1
      have s1m : ∀ x y : Nat, x < 40 → y < 40 → e3 v u d x y → ((T.cut2 u v p).strip v u d).ap (x * 40 + y) = -1 := by
        intro x y hx hy z
        apply Classical.byContradiction
        intro q
        rcases (s1E x y hx hy).mp q with ⟨-, q1⟩ | q1
        · exact q1 z
        · exact q1
      have s2 := St.Stp_put s1.1 s1.2.2.2.2.1 hu hd4 hp (s1m u d hu hd4 (Or.inr (Or.inl ⟨rfl, rfl⟩))) (s1n d p hd4 hp y1) (s1n p u hp hu z3) (show bt ((T.cut2 u v p).th) u = true by rw [hch]; exact su) (show bt ((T.cut2 u v p).th) d = true by rw [hch]; exact g3) (show bt ((T.cut2 u v p).th) p = true by rw [hch]; exact sp) (show 0 < (T.cut2 u v p).sd3 u d p by rw [hcx]; exact p1)
      have s2E := s2.2.2.2.2.2.2.2.2.1
      have s2n : ∀ x y : Nat, x < 40 → y < 40 → ((T.cut2 u v p).strip v u d).ap (x * 40 + y) = -1 → ¬ e3 u d p x y → (((T.cut2 u v p).strip v u d).put u d p).ap (x * 40 + y) = -1 := by
        intro x y hx hy z1 z2
        apply Classical.byContradiction
        intro q
        rcases (s2E x y hx hy).mp q with ⟨q1, -⟩ | q1
        · exact q1 z1
        · exact z2 q1
      have th2 : (((T.cut2 u v p).strip v u d).put u d p).th = T.th := s2.2.2.2.1.trans hch
      have sd2 : (((T.cut2 u v p).strip v u d).put u d p).sd3 = T.sd3 := by
        unfold St.sd3 St.sd
        rw [s2.2.1, s2.2.2.1]
        show (fun a b c => ((T.cut2 u v p).xs b - (T.cut2 u v p).xs a) * ((T.cut2 u v p).ys c - (T.cut2 u v p).ys a) - ((T.cut2 u v p).ys b - (T.cut2 u v p).ys a) * ((T.cut2 u v p).xs c - (T.cut2 u v p).xs a)) = _
        rw [hcut.2.1, hcut.2.2.1]
      obtain ⟨o1, o2, o3⟩ := hn
      have s3 := St.Stp_put s2.1 s2.2.2.2.2.1 hd4 hv hp (s2n d v hd4 hv (s1m d v hd4 hv (Or.inr (Or.inr ⟨rfl, rfl⟩))) (by omega)) (s2n v p hv hp (s1n v p hv hp z2) (by omega)) (s2n p d hp hd4 (s1n p d hp hd4 y2) (by omega)) (by show bt _ d = true; rw [th2]; exact g3) (by show bt _ v = true; rw [th2]; exact sv) (by show bt _ p = true; rw [th2]; exact sp) (by rw [sd2]; exact p2)
      have fin := ((hcut.comp s1).comp s2).comp s3
      obtain ⟨f1, f2, f3, f4, f5, f6, f7, f8, f9, f10⟩ := fin
      refine ⟨f1, f2, f3, f4, f5, f6, fun g hg => ?_, ?_, fun x y hx hy => ?_, fun x y hx hy => ?_⟩
      · have := f7 g hg
        have a1 := hg u v
        have a2 := hg d p
        show (((T.cut2 u v p).strip v u d).put u d p |>.put d v p).Sg g = T.Sg g + (g u v + g v p + g p u)
        rw [this]
        show T.Sg g + (0 + -(g v u + g u d + g d v) + (g u d + g d p + g p u) + (g d v + g v p + g p d)) = _
        omega
      · have e : (((T.cut2 u v p).strip v u d).put u d p |>.put d v p).SgT (fun _ _ _ => 1) = T.SgT (fun _ _ _ => 1) + (0 + -3 + 3 + 3) := f8
        show (((T.cut2 u v p).strip v u d).put u d p |>.put d v p).SgT (fun _ _ _ => 1) = _
        rw [e]
        omega
      · refine (f9 x y hx hy).trans ?_
        show (T.E x y ∧ ¬ (((False ∨ e3 v u d x y) ∨ False) ∨ False)) ∨ ((((((False ∧ ¬ e3 v u d x y) ∨ False) ∧ ¬ False) ∨ e3 u d p x y) ∧ ¬ False) ∨ e3 d v p x y) ↔ (T.E x y ∧ ¬ e3 v u d x y) ∨ (e3 u d p x y ∨ e3 d v p x y)
        simp
      · refine (f10 x y hx hy).trans ?_
        simp [no2]
