/-! A FLIP KEEPS A MESH. By hand. -/
/-- an edge of two triangles whose four corners go round -/
def St.quad (S : St) (a b c d : Nat) : Prop := a < 40 ∧ b < 40 ∧ c < 40 ∧ d < 40 ∧ S.ap (a * 40 + b) = (c : Int) ∧ S.ap (b * 40 + a) = (d : Int) ∧ 0 < S.sd3 a d c ∧ 0 < S.sd3 d b c
theorem St.SgT_geo {S S' : St} (h : S'.geo = S.geo) (G : Nat → Nat → Nat → Int) : S'.SgT G = S.SgT G := by
  have e : S'.ap = S.ap := show S'.geo.ap = S.geo.ap from congrArg St.ap h
  unfold St.SgT
  rw [e]
theorem St.PM_geo {S S' : St} (h : S'.geo = S.geo) (k : S.PM) : S'.PM := St.geo_of (fun _ => rfl) h k
theorem St.Geo.PM {S : St} (h : S.Geo) : S.PM := ⟨h.2.2.1, h.2.2.2.1, h.2.2.2.2.1⟩
/-- what is known of the four -/
theorem St.quad_all {S : St} (hG : S.Geo) {a b c d : Nat} (hq : S.quad a b c d) : (S.has a ∧ S.has b ∧ S.has c ∧ S.has d) ∧ (a ≠ b ∧ b ≠ c ∧ c ≠ a ∧ a ≠ d ∧ b ≠ d ∧ c ≠ d) ∧ (0 < S.sd3 a b c ∧ 0 < S.sd3 b a d) ∧ (S.ap (b * 40 + c) = (a : Int) ∧ S.ap (c * 40 + a) = (b : Int) ∧ S.ap (a * 40 + d) = (b : Int) ∧ S.ap (d * 40 + b) = (a : Int)) ∧ S.ap (c * 40 + d) = -1 ∧ S.ap (d * 40 + c) = -1 := by
  obtain ⟨ha, hb, hc, hd, h1, h2, q1, q2⟩ := hq
  obtain ⟨hinB, hdi, hA, hcy, hp, hv, hbd, hbn, hal⟩ := id hG
  obtain ⟨k1, k2⟩ := hcy a b c ha hb hc h1
  obtain ⟨l1, l2⟩ := hcy b a d hb ha hd h2
  obtain ⟨g1, g2, g3, g4⟩ := hp a b c ha hb hc h1
  obtain ⟨i1, i2, i3, i4⟩ := hp b a d hb ha hd h2
  obtain ⟨n1, n2, n3⟩ := St.pos_ne g4
  obtain ⟨m1, m2, m3⟩ := St.pos_ne i4
  obtain ⟨o1, o2, o3⟩ := St.pos_ne q1
  have e1 := St.sd3_swap S a b d
  have e2 : S.sd3 c d a = -S.sd3 a d c := by rw [show S.sd3 c d a = S.sd3 a c d from (St.sd3_rot S a c d).symm ▸ rfl]; unfold St.sd3 St.sd; grind
  have e3 : S.sd3 c d b = S.sd3 d b c := (St.sd3_rot S c d b).symm
  have x1 : opp (S.sd3 a b c) (S.sd3 a b d) := Or.inr ⟨g4, by omega⟩
  have x2 : opp (S.sd3 c d a) (S.sd3 c d b) := Or.inl ⟨by omega, by omega⟩
  have e4 := St.sd3_swap S c d a
  have e5 := St.sd3_swap S c d b
  have x3 : opp (S.sd3 a b d) (S.sd3 a b c) := Or.inl ⟨by omega, g4⟩
  have x4 : opp (S.sd3 d c a) (S.sd3 d c b) := Or.inr ⟨by omega, by omega⟩
  refine ⟨⟨g1, g2, g3, i3⟩, ⟨n1, n2, n3, m2, fun z => m3 z.symm, fun z => o2 z.symm⟩, ⟨g4, i4⟩, ⟨k1, k2, l1, l2⟩, ?_, ?_⟩
  · have := hA (c * 40 + d) (by omega)
    rcases Int.lt_or_le (S.ap (c * 40 + d)) 0 with z | z
    · omega
    · exact (St.noX hG ha hb hc hd (by omega) (by omega) x1 x2).elim
  · have := hA (d * 40 + c) (by omega)
    rcases Int.lt_or_le (S.ap (d * 40 + c)) 0 with z | z
    · omega
    · exact (St.noX hG ha hb hd hc (by omega) (by omega) x3 x4).elim
theorem St.flip_sum {S : St} (hG : S.Geo) {a b c d : Nat} (hq : S.quad a b c d) : (S.flip a b c d).PM ∧ ∀ G : Nat → Nat → Nat → Int, (S.flip a b c d).SgT G = S.SgT G - (G a b c + G b c a + G c a b) - (G b a d + G a d b + G d b a) + (G a d c + G d c a + G c a d) + (G d b c + G b c d + G c d b) := by
  obtain ⟨⟨sa, sb, sc, sd⟩, ⟨n1, n2, n3, n4, n5, n6⟩, ⟨p1, p2⟩, ⟨k1, k2, l1, l2⟩, z1, z2⟩ := St.quad_all hG hq
  obtain ⟨ha, hb, hc, hd, h1, h2, q1, q2⟩ := hq
  have hge := St.flip_geo S ha hb hc hd n1 n2 n3 n4 n5
  have P1 := St.PM_strip hG.PM ha hb hc h1
  have f1 : (S.strip a b c).ap (b * 40 + a) = (d : Int) := by rw [St.strip_ap, if_neg (by omega), if_neg (by omega), if_neg (by omega)]; exact h2
  have f2 : (S.strip a b c).ap (a * 40 + d) = (b : Int) := by rw [St.strip_ap, if_neg (by omega), if_neg (by omega), if_neg (by omega)]; exact l1
  have f3 : (S.strip a b c).ap (d * 40 + b) = (a : Int) := by rw [St.strip_ap, if_neg (by omega), if_neg (by omega), if_neg (by omega)]; exact l2
  have P2 := St.PM_strip P1 hb ha hd f1
  have u1 : ((S.strip a b c).strip b a d).ap (a * 40 + d) = -1 := by rw [St.strip_ap, if_neg (by omega), if_pos rfl]
  have u2 : ((S.strip a b c).strip b a d).ap (d * 40 + c) = -1 := by rw [St.strip_ap, if_neg (by omega), if_neg (by omega), if_neg (by omega), St.strip_ap, if_neg (by omega), if_neg (by omega), if_neg (by omega)]; exact z2
  have u3 : ((S.strip a b c).strip b a d).ap (c * 40 + a) = -1 := by rw [St.strip_ap, if_neg (by omega), if_neg (by omega), if_neg (by omega), St.strip_ap, if_pos rfl]
  have P3 := St.PM_lay P2 ha hd hc u1 u2 u3 sa sd sc q1
  have w1 : (((S.strip a b c).strip b a d).lay a d c).ap (d * 40 + b) = -1 := by rw [St.lay_ap, if_neg (by omega), if_neg (by omega), if_neg (by omega), St.strip_ap, if_pos rfl]
  have w2 : (((S.strip a b c).strip b a d).lay a d c).ap (b * 40 + c) = -1 := by rw [St.lay_ap, if_neg (by omega), if_neg (by omega), if_neg (by omega), St.strip_ap, if_neg (by omega), if_neg (by omega), if_neg (by omega), St.strip_ap, if_neg (by omega), if_pos rfl]
  have w3 : (((S.strip a b c).strip b a d).lay a d c).ap (c * 40 + d) = -1 := by rw [St.lay_ap, if_neg (by omega), if_neg (by omega), if_neg (by omega), St.strip_ap, if_neg (by omega), if_neg (by omega), if_neg (by omega), St.strip_ap, if_neg (by omega), if_neg (by omega), if_neg (by omega)]; exact z1
  have P4 := St.PM_lay P3 hd hb hc w1 w2 w3 sd sb sc q2
  refine ⟨St.PM_geo hge P4, fun G => ?_⟩
  rw [St.SgT_geo hge, St.SgT_lay hd hb hc ⟨fun z => n5 z.symm, n2, n6⟩ w1 w2 w3, St.SgT_lay ha hd hc ⟨n4, fun z => n6 z.symm, n3⟩ u1 u2 u3, St.SgT_strip hb ha hd ⟨fun z => n1 z.symm, n4, fun z => n5 z.symm⟩ f1 f2 f3, St.SgT_strip ha hb hc ⟨n1, n2, n3⟩ h1 k1 k2]
  omega
/-- which edges are there behind a flip -/
theorem St.flip_pres {S : St} (hG : S.Geo) {a b c d : Nat} (hq : S.quad a b c d) (u v : Nat) (hu : u < 40) (hv : v < 40) : (S.flip a b c d).ap (u * 40 + v) ≠ -1 ↔ (S.ap (u * 40 + v) ≠ -1 ∧ ¬ (u = a ∧ v = b) ∧ ¬ (u = b ∧ v = a)) ∨ (u = c ∧ v = d) ∨ (u = d ∧ v = c) := by
  obtain ⟨-, ⟨n1, n2, n3, n4, n5, n6⟩, -, ⟨k1, k2, l1, l2⟩, z1, z2⟩ := St.quad_all hG hq
  obtain ⟨ha, hb, hc, hd, h1, h2, q1, q2⟩ := hq
  rw [St.flip_ap]
  have eb : ∀ x y : Nat, x < 40 → y < 40 → (u * 40 + v = x * 40 + y ↔ u = x ∧ v = y) := fun x y hx hy => ⟨fun z => by omega, fun z => by omega⟩
  simp only [eb c d hc hd, eb b c hb hc, eb d b hd hb, eb c a hc ha, eb d c hd hc, eb a d ha hd, eb b a hb ha, eb a b ha hb]
  by_cases c1 : u = c ∧ v = d
  · rw [if_pos c1]; constructor
    · intro _; exact Or.inr (Or.inl c1)
    · intro _; omega
  · rw [if_neg c1]
    by_cases c2 : u = b ∧ v = c
    · rw [if_pos c2]; obtain ⟨r1, r2⟩ := c2; subst r1; subst r2; constructor
      · intro _; exact Or.inl ⟨by omega, by omega, by omega⟩
      · intro _; omega
    · rw [if_neg c2]
      by_cases c3 : u = d ∧ v = b
      · rw [if_pos c3]; obtain ⟨r1, r2⟩ := c3; subst r1; subst r2; constructor
        · intro _; exact Or.inl ⟨by omega, by omega, by omega⟩
        · intro _; omega
      · rw [if_neg c3]
        by_cases c4 : u = c ∧ v = a
        · rw [if_pos c4]; obtain ⟨r1, r2⟩ := c4; subst r1; subst r2; constructor
          · intro _; exact Or.inl ⟨by omega, by omega, by omega⟩
          · intro _; omega
        · rw [if_neg c4]
          by_cases c5 : u = d ∧ v = c
          · rw [if_pos c5]; constructor
            · intro _; exact Or.inr (Or.inr c5)
            · intro _; omega
          · rw [if_neg c5]
            by_cases c6 : u = a ∧ v = d
            · rw [if_pos c6]; obtain ⟨r1, r2⟩ := c6; subst r1; subst r2; constructor
              · intro _; exact Or.inl ⟨by omega, by omega, by omega⟩
              · intro _; omega
            · rw [if_neg c6]
              by_cases c7 : u = b ∧ v = a
              · rw [if_pos c7]; constructor
                · intro z; exact absurd rfl z
                · rintro (⟨-, -, z⟩ | z | z)
                  · exact absurd c7 z
                  · exact absurd z c1
                  · exact absurd z c5
              · rw [if_neg c7]
                by_cases c8 : u = a ∧ v = b
                · rw [if_pos c8]; constructor
                  · intro z; exact absurd rfl z
                  · rintro (⟨-, z, -⟩ | z | z)
                    · exact absurd c8 z
                    · exact absurd z c1
                    · exact absurd z c5
                · rw [if_neg c8]; constructor
                  · intro z; exact Or.inl ⟨z, c8, c7⟩
                  · rintro (⟨z, -, -⟩ | z | z)
                    · exact z
                    · exact absurd z c1
                    · exact absurd z c5
def St.sameO (S T : St) : Prop := ∃ ap wa qu qn, T = sM S.xs S.ys S.hs S.fx S.hx S.hy S.th S.hn S.g ap S.ow S.co S.en S.ne S.rd S.tn S.ec S.li wa qu qn
theorem St.sameO_put {S T : St} (h : S.sameO T) (x y z : Nat) : S.sameO (T.put x y z) := by
  obtain ⟨ap, wa, qu, qn, e⟩ := h
  obtain ⟨w, u, n, e2⟩ := St.put_st T x y z
  refine ⟨ap3 T.ap x y z z x y, w, u, n, ?_⟩
  subst e
  exact e2
theorem St.sameO_ap (S : St) (f : Nat → Int) : S.sameO (S.u_ap f) := ⟨f, S.wa, S.qu, S.qn, rfl⟩
theorem St.flip_st (S : St) (a b c d : Nat) : S.sameO (S.flip a b c d) := St.sameO_put (St.sameO_put (St.sameO_ap S _) a d c) d b c
/-- edges of one triangle alone: as they were -/
theorem St.flip_one {S : St} (hG : S.Geo) {a b c d : Nat} (hq : S.quad a b c d) (u v : Nat) (hu : u < 40) (hv : v < 40) : ((S.flip a b c d).ap (u * 40 + v) ≠ -1 ∧ (S.flip a b c d).ap (v * 40 + u) = -1) ↔ (S.ap (u * 40 + v) ≠ -1 ∧ S.ap (v * 40 + u) = -1) := by
  have p1 := St.flip_pres hG hq u v hu hv
  have p2 := St.flip_pres hG hq v u hv hu
  obtain ⟨-, ⟨n1, n2, n3, n4, n5, n6⟩, -, ⟨k1, k2, l1, l2⟩, z1, z2⟩ := St.quad_all hG hq
  obtain ⟨ha, hb, hc, hd, h1, h2, q1, q2⟩ := hq
  constructor
  · rintro ⟨w1, w2⟩
    have w2' : ¬ (S.flip a b c d).ap (v * 40 + u) ≠ -1 := fun z => z w2
    rw [p1] at w1
    rw [p2] at w2'
    rcases w1 with ⟨y1, y2, y3⟩ | y | y
    · refine ⟨y1, ?_⟩
      rcases Int.lt_or_le (S.ap (v * 40 + u)) (-1) with t | t
      · have := hG.2.2.1 (v * 40 + u) (by omega); omega
      · rcases Int.lt_or_eq_of_le t with t | t
        · exfalso; apply w2'; exact Or.inl ⟨by omega, by omega, by omega⟩
        · exact t.symm
    · exfalso; apply w2'; exact Or.inr (Or.inr (by omega))
    · exfalso; apply w2'; exact Or.inr (Or.inl (by omega))
  · rintro ⟨w1, w2⟩
    have t1 : ¬ (u = a ∧ v = b) := by rintro ⟨r1, r2⟩; subst r1; subst r2; omega
    have t2 : ¬ (u = b ∧ v = a) := by rintro ⟨r1, r2⟩; subst r1; subst r2; omega
    refine ⟨p1.mpr (Or.inl ⟨w1, t1, t2⟩), ?_⟩
    rcases Int.lt_or_eq_of_le (show -1 ≤ (S.flip a b c d).ap (v * 40 + u) from ((St.flip_sum hG ⟨ha, hb, hc, hd, h1, h2, q1, q2⟩).1.1 _ (by omega)).1) with t | t
    · exfalso
      rcases p2.mp (by omega) with ⟨y, -, -⟩ | ⟨r1, r2⟩ | ⟨r1, r2⟩
      · exact y w2
      · subst r1; subst r2; omega
      · subst r1; subst r2; omega
    · exact t.symm
theorem St.flip_Geo {S : St} (hG : S.Geo) {a b c d : Nat} (hq : S.quad a b c d) : (S.flip a b c d).Geo := by
  obtain ⟨hPM, hS⟩ := St.flip_sum hG hq
  have hpr := St.flip_pres hG hq
  have hon := St.flip_one hG hq
  obtain ⟨ap, wa, qu, qn, est⟩ := St.flip_st S a b c d
  obtain ⟨hinB, hdi, hA, hcy, hp, hv, hbd, hbn, hal⟩ := id hG
  obtain ⟨-, ⟨n1, n2, n3, n4, n5, n6⟩, -, ⟨k1, k2, l1, l2⟩, z1, z2⟩ := St.quad_all hG hq
  obtain ⟨ha, hb, hc, hd, h1, h2, q1, q2⟩ := hq
  refine ⟨?_, ?_, hPM.1, hPM.2.1, hPM.2.2, ?_, ?_, ?_, ?_⟩
  · rw [est]; exact hinB
  · rw [est]; exact hdi
  · intro x y s hg hi
    have hg' : S.gen x y s := by rw [est] at hg; exact hg
    have hw : (S.flip a b c d).wd x y s = S.wd x y s := by rw [est]; rfl
    rw [hw, St.Sg_T, hS, ← St.Sg_T, hv x y s hg' hi]
    have e1 := St.wd_anti S x y s a b
    have e2 := St.wd_anti S x y s c d
    show (1 : Int) - (S.wd x y s a b + S.wd x y s b c + S.wd x y s c a) - (S.wd x y s b a + S.wd x y s a d + S.wd x y s d b) + (S.wd x y s a d + S.wd x y s d c + S.wd x y s c a) + (S.wd x y s d b + S.wd x y s b c + S.wd x y s c d) = 1
    omega
  · intro u v hu hv2 y1 y2
    have y := (hon u v hu hv2).mp ⟨y1, y2⟩
    have := hbd u v hu hv2 y.1 y.2
    rw [est]; exact this
  · intro p hp2 hs hb2
    obtain ⟨v, y1, y2, y3⟩ := hbn p hp2 (by rw [est] at hs; exact hs) (by rw [est] at hb2; exact hb2)
    have y := (hon p v hp2 y1).mpr ⟨y2, y3⟩
    exact ⟨v, y1, y.1, y.2⟩
  · intro p hp2 hs
    obtain ⟨v, y1, y2⟩ := hal p hp2 (by rw [est] at hs; exact hs)
    by_cases t1 : p = a ∧ v = b
    · obtain ⟨r1, r2⟩ := t1
      subst r1
      exact ⟨d, hd, (hpr p d ha hd).mpr (Or.inl ⟨by omega, by omega, by omega⟩)⟩
    · by_cases t2 : p = b ∧ v = a
      · obtain ⟨r1, r2⟩ := t2
        subst r1
        exact ⟨c, hc, (hpr p c hb hc).mpr (Or.inl ⟨by omega, by omega, by omega⟩)⟩
      · exact ⟨v, y1, (hpr p v hp2 y1).mpr (Or.inl ⟨y2, t1, t2⟩)⟩
