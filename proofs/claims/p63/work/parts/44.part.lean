/-! PARTS OF A MESH: a triangle taken away, a triangle laid; sums over all triangles. By hand. -/
/-- what is geometry alone: places, which points are there, what stands behind each edge -/
def St.geo (S : St) : St := sM S.xs S.ys (fun _ => 0) (fun _ => 0) (fun _ => 0) (fun _ => 0) S.th 0 0 S.ap (fun _ => 0) (fun _ => 0) (fun _ => 0) (fun _ => 0) (fun _ => 0) 0 0 (fun _ => 0) (fun _ => 0) (fun _ => 0) 0
theorem St.geo_of {P : St → Prop} (hP : ∀ S : St, P S = P S.geo) {S S' : St} (h : S'.geo = S.geo) (k : P S) : P S' := by
  rw [hP S', h, ← hP S]
  exact k
theorem St.geo_mk {S S' : St} (h1 : S'.xs = S.xs) (h2 : S'.ys = S.ys) (h3 : S'.th = S.th) (h4 : S'.ap = S.ap) : S'.geo = S.geo := by
  unfold St.geo
  rw [h1, h2, h3, h4]
theorem St.aw0_st (S : St) (a b : Nat) : ∃ wa qu qn, S.aw0 a b = sM S.xs S.ys S.hs S.fx S.hx S.hy S.th S.hn S.g S.ap S.ow S.co S.en S.ne S.rd S.tn S.ec S.li wa qu qn := by
  by_cases hz : bt (S.wa a) b = true ∨ 800 ≤ S.qn
  · exact ⟨S.wa, S.qu, S.qn, if_pos hz⟩
  · exact ⟨_, _, _, if_neg hz⟩
theorem St.aw_st (S : St) (a b : Nat) : ∃ wa qu qn, S.aw a b = sM S.xs S.ys S.hs S.fx S.hx S.hy S.th S.hn S.g S.ap S.ow S.co S.en S.ne S.rd S.tn S.ec S.li wa qu qn := by
  by_cases hz : a < b
  · rw [show S.aw a b = S.aw0 a b from if_pos hz]; exact St.aw0_st S a b
  · rw [show S.aw a b = S.aw0 b a from if_neg hz]; exact St.aw0_st S b a
/-- a put: the same but for what stands behind edges, and what waits -/
theorem St.put_st (S : St) (a b c : Nat) : ∃ wa qu qn, S.put a b c = sM S.xs S.ys S.hs S.fx S.hx S.hy S.th S.hn S.g (ap3 S.ap a b c c a b) S.ow S.co S.en S.ne S.rd S.tn S.ec S.li wa qu qn := by
  obtain ⟨w1, u1, n1, e1⟩ := St.aw_st (S.lay a b c) a b
  obtain ⟨w2, u2, n2, e2⟩ := St.aw_st ((S.lay a b c).aw a b) b c
  obtain ⟨w3, u3, n3, e3⟩ := St.aw_st (((S.lay a b c).aw a b).aw b c) c a
  refine ⟨w3, u3, n3, ?_⟩
  show (((S.lay a b c).aw a b).aw b c).aw c a = _
  rw [e3, e2, e1]
  rfl
theorem St.put_geo (S : St) (a b c : Nat) : (S.put a b c).geo = (S.lay a b c).geo := by
  obtain ⟨w, u, n, e⟩ := St.put_st S a b c
  rw [e]
  rfl
theorem St.lay_geo {S S' : St} (h : S'.geo = S.geo) (a b c : Nat) : (S'.lay a b c).geo = (S.lay a b c).geo := by
  have e1 : S'.xs = S.xs := show S'.geo.xs = S.geo.xs from congrArg St.xs h
  have e2 : S'.ys = S.ys := show S'.geo.ys = S.geo.ys from congrArg St.ys h
  have e3 : S'.th = S.th := show S'.geo.th = S.geo.th from congrArg St.th h
  have e4 : S'.ap = S.ap := show S'.geo.ap = S.geo.ap from congrArg St.ap h
  refine St.geo_mk e1 e2 e3 ?_
  show ap3 S'.ap a b c c a b = ap3 S.ap a b c c a b
  rw [e4]
theorem St.strip_geo {S S' : St} (h : S'.geo = S.geo) (a b c : Nat) : (S'.strip a b c).geo = (S.strip a b c).geo := by
  have e1 : S'.xs = S.xs := show S'.geo.xs = S.geo.xs from congrArg St.xs h
  have e2 : S'.ys = S.ys := show S'.geo.ys = S.geo.ys from congrArg St.ys h
  have e3 : S'.th = S.th := show S'.geo.th = S.geo.th from congrArg St.th h
  have e4 : S'.ap = S.ap := show S'.geo.ap = S.geo.ap from congrArg St.ap h
  refine St.geo_mk e1 e2 e3 ?_
  show ap3 S'.ap a b c _ _ _ = ap3 S.ap a b c _ _ _
  rw [e4]
theorem St.lay_ap (S : St) (a b c e : Nat) : (S.lay a b c).ap e = if e = c * 40 + a then (b : Int) else if e = b * 40 + c then (a : Int) else if e = a * 40 + b then (c : Int) else S.ap e := rfl
theorem St.strip_ap (S : St) (a b c e : Nat) : (S.strip a b c).ap e = if e = c * 40 + a then -1 else if e = b * 40 + c then -1 else if e = a * 40 + b then -1 else S.ap e := rfl
theorem St.lay_xs (S : St) (a b c : Nat) : (S.lay a b c).xs = S.xs := rfl
theorem St.lay_ys (S : St) (a b c : Nat) : (S.lay a b c).ys = S.ys := rfl
theorem St.lay_th (S : St) (a b c : Nat) : (S.lay a b c).th = S.th := rfl
theorem St.strip_xs (S : St) (a b c : Nat) : (S.strip a b c).xs = S.xs := rfl
theorem St.strip_ys (S : St) (a b c : Nat) : (S.strip a b c).ys = S.ys := rfl
theorem St.strip_th (S : St) (a b c : Nat) : (S.strip a b c).th = S.th := rfl
theorem St.uap_xs (S : St) (v : Nat → Int) : (S.u_ap v).xs = S.xs := rfl
theorem St.uap_ys (S : St) (v : Nat → Int) : (S.u_ap v).ys = S.ys := rfl
theorem St.uap_th (S : St) (v : Nat → Int) : (S.u_ap v).th = S.th := rfl
theorem St.uap_ap (S : St) (v : Nat → Int) : (S.u_ap v).ap = v := rfl
theorem uZ_swap {f : Nat → Int} {j k : Nat} {x y : Int} (h : j ≠ k) : uZ (uZ f j x) k y = uZ (uZ f k y) j x := by
  funext i
  unfold uZ
  by_cases e1 : i = k
  · by_cases e2 : i = j
    · exact absurd (e2.symm.trans e1) h
    · rw [if_pos e1, if_neg e2, if_pos e1]
  · by_cases e2 : i = j
    · rw [if_neg e1, if_pos e2, if_pos e2]
    · rw [if_neg e1, if_neg e2, if_neg e2, if_neg e1]
/-- a flip: two triangles taken away, two laid -/
theorem St.flip_geo (S : St) {a b c d : Nat} (ha : a < 40) (hb : b < 40) (hc : c < 40) (hd : d < 40) (h1 : a ≠ b) (h2 : b ≠ c) (h3 : c ≠ a) (h4 : a ≠ d) (h5 : b ≠ d) : (S.flip a b c d).geo = ((((S.strip a b c).strip b a d).lay a d c).lay d b c).geo := by
  have hf : ∀ T : St, ((T.put a d c).put d b c).geo = ((T.lay a d c).lay d b c).geo := fun T => by
    rw [St.put_geo, St.lay_geo (St.put_geo _ _ _ _)]
  refine (hf _).trans ?_
  refine St.geo_mk (by rw [St.lay_xs, St.lay_xs, St.lay_xs, St.lay_xs, St.strip_xs, St.strip_xs, St.uap_xs]) (by rw [St.lay_ys, St.lay_ys, St.lay_ys, St.lay_ys, St.strip_ys, St.strip_ys, St.uap_ys]) (by rw [St.lay_th, St.lay_th, St.lay_th, St.lay_th, St.strip_th, St.strip_th, St.uap_th]) ?_
  funext e
  rw [St.lay_ap, St.lay_ap, St.lay_ap, St.lay_ap, St.strip_ap, St.strip_ap, St.uap_ap]
  unfold uZ
  by_cases c1 : e = c * 40 + d
  · rw [if_pos c1, if_pos c1]
  rw [if_neg c1, if_neg c1]
  by_cases c2 : e = b * 40 + c
  · rw [if_pos c2, if_pos c2]
  rw [if_neg c2, if_neg c2]
  by_cases c3 : e = d * 40 + b
  · rw [if_pos c3, if_pos c3]
  rw [if_neg c3, if_neg c3]
  by_cases c4 : e = c * 40 + a
  · rw [if_pos c4, if_pos c4]
  rw [if_neg c4, if_neg c4]
  by_cases c5 : e = d * 40 + c
  · rw [if_pos c5, if_pos c5]
  rw [if_neg c5, if_neg c5]
  by_cases c6 : e = a * 40 + d
  · rw [if_pos c6, if_pos c6]
  rw [if_neg c6, if_neg c6, if_neg c3, if_neg c6, if_neg c4, if_neg c2]
/-! sums -/
theorem sumR_ind {n k : Nat} (hk : k < n) (v : Int) : sumR n (fun j => if j = k then v else 0) = v := by
  rw [sumR_one hk (fun j _ hne => if_neg hne), if_pos rfl]
theorem sumR_3 {f g : Nat → Int} {n k1 k2 k3 : Nat} (h1 : k1 < n) (h2 : k2 < n) (h3 : k3 < n) (d1 : k1 ≠ k2) (d2 : k2 ≠ k3) (d3 : k3 ≠ k1) (h : ∀ j : Nat, j < n → j ≠ k1 → j ≠ k2 → j ≠ k3 → g j = f j) : sumR n g = sumR n f + (g k1 - f k1) + (g k2 - f k2) + (g k3 - f k3) := by
  have e : ∀ j : Nat, j < n → g j = f j + ((if j = k1 then g k1 - f k1 else 0) + ((if j = k2 then g k2 - f k2 else 0) + (if j = k3 then g k3 - f k3 else 0))) := by
    intro j hj
    by_cases c1 : j = k1
    · subst c1; rw [if_pos rfl, if_neg d1, if_neg (fun z => d3 z.symm)]; omega
    · by_cases c2 : j = k2
      · subst c2; rw [if_neg c1, if_pos rfl, if_neg d2]; omega
      · by_cases c3 : j = k3
        · subst c3; rw [if_neg c1, if_neg c2, if_pos rfl]; omega
        · rw [if_neg c1, if_neg c2, if_neg c3, h j hj c1 c2 c3]; omega
  rw [sumR_congr e, sumR_add, sumR_add, sumR_add, sumR_ind h1, sumR_ind h2, sumR_ind h3]
  omega
/-- the sum over all triangles, each from each of its edges -/
def St.SgT (S : St) (G : Nat → Nat → Nat → Int) : Int := sumR 1600 (fun e => if S.ap e = -1 then 0 else G (e / 40) (e % 40) (S.ap e).toNat)
theorem St.Sg_T (S : St) (g : Nat → Nat → Int) : S.Sg g = S.SgT (fun u v _ => g u v) := rfl
abbrev nodup3 (a b c : Nat) : Prop := a ≠ b ∧ b ≠ c ∧ c ≠ a
theorem St.SgT_lay {S : St} {a b c : Nat} (ha : a < 40) (hb : b < 40) (hc : c < 40) (hn : nodup3 a b c) (h1 : S.ap (a * 40 + b) = -1) (h2 : S.ap (b * 40 + c) = -1) (h3 : S.ap (c * 40 + a) = -1) (G : Nat → Nat → Nat → Int) : (S.lay a b c).SgT G = S.SgT G + G a b c + G b c a + G c a b := by
  obtain ⟨n1, n2, n3⟩ := hn
  unfold St.SgT
  rw [sumR_3 (f := fun e => if S.ap e = -1 then 0 else G (e / 40) (e % 40) (S.ap e).toNat) (k1 := a * 40 + b) (k2 := b * 40 + c) (k3 := c * 40 + a) (by omega) (by omega) (by omega) (by omega) (by omega) (by omega) (fun j _ q1 q2 q3 => by
    show (if (S.lay a b c).ap j = -1 then 0 else G (j / 40) (j % 40) ((S.lay a b c).ap j).toNat) = _
    rw [St.lay_ap, if_neg q3, if_neg q2, if_neg q1])]
  have e1 : (S.lay a b c).ap (a * 40 + b) = (c : Int) := by rw [St.lay_ap, if_neg (by omega), if_neg (by omega), if_pos rfl]
  have e2 : (S.lay a b c).ap (b * 40 + c) = (a : Int) := by rw [St.lay_ap, if_neg (by omega), if_pos rfl]
  have e3 : (S.lay a b c).ap (c * 40 + a) = (b : Int) := by rw [St.lay_ap, if_pos rfl]
  simp only [e1, e2, e3, h1, h2, h3, if_true]
  rw [if_neg (by omega), if_neg (by omega), if_neg (by omega), show (a * 40 + b) / 40 = a by omega, show (a * 40 + b) % 40 = b by omega, show (b * 40 + c) / 40 = b by omega, show (b * 40 + c) % 40 = c by omega, show (c * 40 + a) / 40 = c by omega, show (c * 40 + a) % 40 = a by omega, Int.toNat_natCast, Int.toNat_natCast, Int.toNat_natCast]
  omega
theorem St.SgT_strip {S : St} {a b c : Nat} (ha : a < 40) (hb : b < 40) (hc : c < 40) (hn : nodup3 a b c) (h1 : S.ap (a * 40 + b) = (c : Int)) (h2 : S.ap (b * 40 + c) = (a : Int)) (h3 : S.ap (c * 40 + a) = (b : Int)) (G : Nat → Nat → Nat → Int) : (S.strip a b c).SgT G = S.SgT G - G a b c - G b c a - G c a b := by
  obtain ⟨n1, n2, n3⟩ := hn
  unfold St.SgT
  rw [sumR_3 (f := fun e => if S.ap e = -1 then 0 else G (e / 40) (e % 40) (S.ap e).toNat) (k1 := a * 40 + b) (k2 := b * 40 + c) (k3 := c * 40 + a) (by omega) (by omega) (by omega) (by omega) (by omega) (by omega) (fun j _ q1 q2 q3 => by
    show (if (S.strip a b c).ap j = -1 then 0 else G (j / 40) (j % 40) ((S.strip a b c).ap j).toNat) = _
    rw [St.strip_ap, if_neg q3, if_neg q2, if_neg q1])]
  have e1 : (S.strip a b c).ap (a * 40 + b) = -1 := by rw [St.strip_ap, if_neg (by omega), if_neg (by omega), if_pos rfl]
  have e2 : (S.strip a b c).ap (b * 40 + c) = -1 := by rw [St.strip_ap, if_neg (by omega), if_pos rfl]
  have e3 : (S.strip a b c).ap (c * 40 + a) = -1 := by rw [St.strip_ap, if_pos rfl]
  simp only [e1, e2, e3, h1, h2, h3, if_true]
  rw [if_neg (by omega), if_neg (by omega), if_neg (by omega), show (a * 40 + b) / 40 = a by omega, show (a * 40 + b) % 40 = b by omega, show (b * 40 + c) / 40 = b by omega, show (b * 40 + c) % 40 = c by omega, show (c * 40 + a) / 40 = c by omega, show (c * 40 + a) % 40 = a by omega, Int.toNat_natCast, Int.toNat_natCast, Int.toNat_natCast]
  omega
/-! triangles of positive area, told from each of their edges -/
def St.PM (S : St) : Prop := S.okA ∧ S.cyc ∧ S.pos
theorem St.PM_strip {S : St} (h : S.PM) {a b c : Nat} (ha : a < 40) (hb : b < 40) (hc : c < 40) (h1 : S.ap (a * 40 + b) = (c : Int)) : (S.strip a b c).PM := by
  obtain ⟨hA, hcy, hp⟩ := h
  obtain ⟨h2, h3⟩ := hcy a b c ha hb hc h1
  have old : ∀ u v w : Nat, u < 40 → v < 40 → (S.strip a b c).ap (u * 40 + v) = (w : Int) → S.ap (u * 40 + v) = (w : Int) ∧ u * 40 + v ≠ c * 40 + a ∧ u * 40 + v ≠ b * 40 + c ∧ u * 40 + v ≠ a * 40 + b := by
    intro u v w hu hv hz
    rw [St.strip_ap] at hz
    split at hz
    · omega
    · split at hz
      · omega
      · split at hz
        · omega
        · exact ⟨hz, by assumption, by assumption, by assumption⟩
  refine ⟨fun j hj => ?_, fun u v w hu hv hw hz => ?_, fun u v w hu hv hw hz => ?_⟩
  · have := hA j hj
    rw [St.strip_ap]
    (repeat' split) <;> omega
  · obtain ⟨k0, k1, k2, k3⟩ := old u v w hu hv hz
    obtain ⟨g1, g2⟩ := hcy u v w hu hv hw k0
    constructor
    · rw [St.strip_ap, if_neg, if_neg, if_neg]
      · exact g1
      · intro z; rw [z, h1] at g1; omega
      · intro z; rw [z, h2] at g1; omega
      · intro z; rw [z, h3] at g1; omega
    · rw [St.strip_ap, if_neg, if_neg, if_neg]
      · exact g2
      · intro z; rw [z, h1] at g2; omega
      · intro z; rw [z, h2] at g2; omega
      · intro z; rw [z, h3] at g2; omega
  · exact hp u v w hu hv hw (old u v w hu hv hz).1
theorem St.PM_lay {S : St} (h : S.PM) {a b c : Nat} (ha : a < 40) (hb : b < 40) (hc : c < 40) (h1 : S.ap (a * 40 + b) = -1) (h2 : S.ap (b * 40 + c) = -1) (h3 : S.ap (c * 40 + a) = -1) (sa : S.has a) (sb : S.has b) (sc : S.has c) (hpos : 0 < S.sd3 a b c) : (S.lay a b c).PM := by
  obtain ⟨hA, hcy, hp⟩ := h
  obtain ⟨n1, n2, n3⟩ := St.pos_ne hpos
  have e1 : (S.lay a b c).ap (a * 40 + b) = (c : Int) := by rw [St.lay_ap, if_neg (by omega), if_neg (by omega), if_pos rfl]
  have e2 : (S.lay a b c).ap (b * 40 + c) = (a : Int) := by rw [St.lay_ap, if_neg (by omega), if_pos rfl]
  have e3 : (S.lay a b c).ap (c * 40 + a) = (b : Int) := by rw [St.lay_ap, if_pos rfl]
  have old : ∀ u v w : Nat, u < 40 → v < 40 → w < 40 → (S.lay a b c).ap (u * 40 + v) = (w : Int) → (u = c ∧ v = a ∧ w = b) ∨ (u = b ∧ v = c ∧ w = a) ∨ (u = a ∧ v = b ∧ w = c) ∨ S.ap (u * 40 + v) = (w : Int) := by
    intro u v w hu hv hw hz
    rw [St.lay_ap] at hz
    split at hz
    · exact Or.inl (by omega)
    · split at hz
      · exact Or.inr (Or.inl (by omega))
      · split at hz
        · exact Or.inr (Or.inr (Or.inl (by omega)))
        · exact Or.inr (Or.inr (Or.inr hz))
  refine ⟨fun j hj => ?_, fun u v w hu hv hw hz => ?_, fun u v w hu hv hw hz => ?_⟩
  · have := hA j hj
    rw [St.lay_ap]
    (repeat' split) <;> omega
  · rcases old u v w hu hv hw hz with ⟨q1, q2, q3⟩ | ⟨q1, q2, q3⟩ | ⟨q1, q2, q3⟩ | q
    · subst q1; subst q2; subst q3; exact ⟨e1, e2⟩
    · subst q1; subst q2; subst q3; exact ⟨e3, e1⟩
    · subst q1; subst q2; subst q3; exact ⟨e2, e3⟩
    · obtain ⟨g1, g2⟩ := hcy u v w hu hv hw q
      constructor
      · rw [St.lay_ap, if_neg, if_neg, if_neg]
        · exact g1
        · intro z; rw [z, h1] at g1; omega
        · intro z; rw [z, h2] at g1; omega
        · intro z; rw [z, h3] at g1; omega
      · rw [St.lay_ap, if_neg, if_neg, if_neg]
        · exact g2
        · intro z; rw [z, h1] at g2; omega
        · intro z; rw [z, h2] at g2; omega
        · intro z; rw [z, h3] at g2; omega
  · rcases old u v w hu hv hw hz with ⟨q1, q2, q3⟩ | ⟨q1, q2, q3⟩ | ⟨q1, q2, q3⟩ | q
    · subst q1; subst q2; subst q3; exact ⟨sc, sa, sb, by show 0 < S.sd3 u v w; rw [← St.sd3_rot S u v w]; exact hpos⟩
    · subst q1; subst q2; subst q3; exact ⟨sb, sc, sa, by show 0 < S.sd3 u v w; rw [St.sd3_rot S w u v]; exact hpos⟩
    · subst q1; subst q2; subst q3; exact ⟨sa, sb, sc, hpos⟩
    · exact hp u v w hu hv hw q
