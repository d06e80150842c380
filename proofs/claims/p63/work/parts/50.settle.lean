/-! SETTLED: the flips end, and then each edge is allowed. By hand. -/
/-- edges that must stay are edges, and those of one triangle alone must stay -/
def St.Fx (S : St) : Prop := (∀ x y : Nat, x < 40 → y < 40 → S.bound x y → S.bound y x ∧ S.has x ∧ S.has y ∧ (S.ap (x * 40 + y) ≠ -1 ∨ S.ap (y * 40 + x) ≠ -1)) ∧ (∀ x y : Nat, x < 40 → y < 40 → S.ap (x * 40 + y) ≠ -1 → S.ap (y * 40 + x) = -1 → S.bound x y)
def St.nV (S : St) : Int := sumR 40 (fun p => if S.has p then 1 else 0)
def St.Bd (S : St) : Int := sumR 1600 (fun e => if S.ap e ≠ -1 ∧ S.ap (e % 40 * 40 + e / 40) = -1 then 1 else 0)
def St.arf (S : St) (u v : Nat) : Int := S.xs u * S.ys v - S.xs v * S.ys u
/-- how many triangles there are, and how large they are together -/
def St.Eul (S : St) : Prop := S.SgT (fun _ _ _ => 1) = 3 * (2 * S.nV - S.Bd - 2) ∧ S.Sg S.arf = 8000000
/-- a mesh with its edges that must stay -/
def St.Msh (S : St) : Prop := S.Geo ∧ S.Fx ∧ S.Eul
theorem St.Msh_geo {S T : St} (h : T.geo = S.geo) (hf : T.fx = S.fx) (k : S.Msh) : T.Msh := by
  have e1 : T.xs = S.xs := show T.geo.xs = S.geo.xs from congrArg St.xs h
  have e2 : T.ys = S.ys := show T.geo.ys = S.geo.ys from congrArg St.ys h
  have e3 : T.th = S.th := show T.geo.th = S.geo.th from congrArg St.th h
  have e4 : T.ap = S.ap := show T.geo.ap = S.geo.ap from congrArg St.ap h
  obtain ⟨k1, k2, k3⟩ := k
  refine ⟨St.geo_of (fun _ => rfl) h k1, ?_, St.geo_of (fun _ => rfl) h k3⟩
  unfold St.Fx St.bound St.has at *
  rw [e3, e4, hf]
  exact k2
theorem St.Eul_flip {S : St} (hG : S.Geo) {a b c d : Nat} (hq : S.quad a b c d) (h : S.Eul) : (S.flip a b c d).Eul := by
  have hS := (St.flip_sum hG hq).2
  have hon := St.flip_one hG hq
  obtain ⟨ap, wa, qu, qn, est⟩ := St.flip_st S a b c d
  have e1 : (S.flip a b c d).nV = S.nV := by rw [est]; rfl
  have e2 : (S.flip a b c d).arf = S.arf := by rw [est]; rfl
  have e3 : (S.flip a b c d).Bd = S.Bd := by
    unfold St.Bd
    apply sumR_congr
    intro e he
    have := hon (e / 40) (e % 40) (by omega) (by omega)
    rw [show e / 40 * 40 + e % 40 = e by omega] at this
    by_cases c0 : S.ap e ≠ -1 ∧ S.ap (e % 40 * 40 + e / 40) = -1
    · rw [if_pos c0, if_pos (this.mpr c0)]
    · rw [if_neg c0, if_neg (fun z => c0 (this.mp z))]
  obtain ⟨h1, h2⟩ := h
  constructor
  · rw [hS, e1, e3, h1]
    omega
  · rw [e2, St.Sg_T, hS, ← St.Sg_T, h2]
    have a1 : S.arf b a = -S.arf a b := by unfold St.arf; omega
    have a2 : S.arf d c = -S.arf c d := by unfold St.arf; omega
    show (8000000 : Int) - (S.arf a b + S.arf b c + S.arf c a) - (S.arf b a + S.arf a d + S.arf d b) + (S.arf a d + S.arf d c + S.arf c a) + (S.arf d b + S.arf b c + S.arf c d) = 8000000
    omega
theorem St.Fx_flip {S : St} (hG : S.Geo) {a b c d : Nat} (hq : S.quad a b c d) (hn : ¬ S.bound a b) (h : S.Fx) : (S.flip a b c d).Fx := by
  have hpr := St.flip_pres hG hq
  have hon := St.flip_one hG hq
  obtain ⟨ap, wa, qu, qn, est⟩ := St.flip_st S a b c d
  obtain ⟨h1, h2⟩ := h
  have eb : ∀ x y : Nat, (S.flip a b c d).bound x y ↔ S.bound x y := fun x y => by rw [est]; exact Iff.rfl
  have ehs : ∀ x : Nat, (S.flip a b c d).has x ↔ S.has x := fun x => by rw [est]; exact Iff.rfl
  have hnot : ∀ x y : Nat, x < 40 → y < 40 → S.bound x y → ¬ (x = a ∧ y = b) ∧ ¬ (x = b ∧ y = a) := by
    intro x y hx hy hxy
    constructor
    · rintro ⟨r1, r2⟩; subst r1; subst r2; exact hn hxy
    · rintro ⟨r1, r2⟩; subst r1; subst r2; exact hn (h1 x y hx hy hxy).1
  constructor
  · intro x y hx hy hxy
    rw [eb] at hxy
    obtain ⟨k1, k2, k3, k4⟩ := h1 x y hx hy hxy
    have n1 := hnot x y hx hy hxy
    have n2 := hnot y x hy hx k1
    refine ⟨(eb y x).mpr k1, (ehs x).mpr k2, (ehs y).mpr k3, ?_⟩
    rcases k4 with k | k
    · exact Or.inl ((hpr x y hx hy).mpr (Or.inl ⟨k, n1.1, n1.2⟩))
    · exact Or.inr ((hpr y x hy hx).mpr (Or.inl ⟨k, n2.1, n2.2⟩))
  · intro x y hx hy k1 k2
    have k := (hon x y hx hy).mp ⟨k1, k2⟩
    exact (eb x y).mpr (h2 x y hx hy k.1 k.2)
theorem St.Msh_flip {S : St} (h : S.Msh) {a b c d : Nat} (hq : S.quad a b c d) (hn : ¬ S.bound a b) : (S.flip a b c d).Msh := ⟨St.flip_Geo h.1 hq, St.Fx_flip h.1 hq hn h.2.1, St.Eul_flip h.1 hq h.2.2⟩
/-- a lift as lift_ex gives one -/
def St.goodL (S : St) (L : Nat → Int) : Prop := S.scv L ∧ ∀ a b c d : Nat, (a < 40 ∧ b < 40 ∧ c < 40 ∧ d < 40) → (S.has a ∧ S.has b ∧ S.has c ∧ S.has d) → (a ≠ b ∧ b ≠ c ∧ c ≠ a ∧ a ≠ d ∧ b ≠ d ∧ c ≠ d) → 0 < S.sd3 a b c → 0 < S.sd3 b a d → (S.alw a b c d → S.U L a b c d < 0) ∧ (¬ S.alw a b c d → 0 < S.U L a b c d)
theorem St.goodL_ex {S : St} (hG : S.Geo) : ∃ L : Nat → Int, S.goodL L := St.lift_ex hG.1 hG.2.1
theorem St.goodL_O {S T : St} (h : S.sameO T) {L : Nat → Int} (k : S.goodL L) : T.goodL L := by
  obtain ⟨ap, wa, qu, qn, e⟩ := h
  subst e
  exact k
/-- what is known of an edge of two triangles -/
theorem St.two {S : St} (hG : S.Geo) {a b : Nat} (ha : a < 40) (hb : b < 40) (h1 : S.ap (a * 40 + b) ≠ -1) (h2 : S.ap (b * 40 + a) ≠ -1) : ∃ c d : Nat, S.ap (a * 40 + b) = (c : Int) ∧ S.ap (b * 40 + a) = (d : Int) ∧ (a < 40 ∧ b < 40 ∧ c < 40 ∧ d < 40) ∧ (S.has a ∧ S.has b ∧ S.has c ∧ S.has d) ∧ (a ≠ b ∧ b ≠ c ∧ c ≠ a ∧ a ≠ d ∧ b ≠ d ∧ c ≠ d) ∧ 0 < S.sd3 a b c ∧ 0 < S.sd3 b a d := by
  obtain ⟨hinB, hdi, hA, hcy, hp, hv, hbd, hbn, hal⟩ := id hG
  have b1 := hA (a * 40 + b) (by omega)
  have b2 := hA (b * 40 + a) (by omega)
  obtain ⟨c, hc⟩ := Int.eq_ofNat_of_zero_le (show 0 ≤ S.ap (a * 40 + b) by omega)
  obtain ⟨d, hd⟩ := Int.eq_ofNat_of_zero_le (show 0 ≤ S.ap (b * 40 + a) by omega)
  have hc4 : c < 40 := by omega
  have hd4 : d < 40 := by omega
  obtain ⟨g1, g2, g3, g4⟩ := hp a b c ha hb hc4 hc
  obtain ⟨i1, i2, i3, i4⟩ := hp b a d hb ha hd4 hd
  obtain ⟨n1, n2, n3⟩ := St.pos_ne g4
  obtain ⟨m1, m2, m3⟩ := St.pos_ne i4
  refine ⟨c, d, hc, hd, ⟨ha, hb, hc4, hd4⟩, ⟨g1, g2, g3, i3⟩, ⟨n1, n2, n3, m2, fun z => m3 z.symm, ?_⟩, g4, i4⟩
  intro z
  subst z
  have := S.sd3_swap a b c
  omega
theorem St.two_quad {S : St} (hG : S.Geo) {L : Nat → Int} (hL : S.scv L) {a b c d : Nat} (hb : a < 40 ∧ b < 40 ∧ c < 40 ∧ d < 40) (h1 : S.ap (a * 40 + b) = (c : Int)) (h2 : S.ap (b * 40 + a) = (d : Int)) (hU : 0 ≤ S.U L a b c d) : S.quad a b c d := by
  obtain ⟨c', d', e1, e2, k1, k2, k3, k4, k5⟩ := St.two hG hb.1 hb.2.1 (by omega : S.ap (a * 40 + b) ≠ -1) (by omega)
  have z1 : c' = c := by omega
  have z2 : d' = d := by omega
  subst z1
  subst z2
  obtain ⟨q1, q2⟩ := St.cvx hL hb k2 ⟨k3.1, k3.2.1, k3.2.2.1, k3.2.2.2.1, k3.2.2.2.2.1⟩ k4 k5 hU
  exact ⟨hb.1, hb.2.1, hb.2.2.1, hb.2.2.2, h1, h2, q1, q2⟩
theorem St.U_congr (S : St) {L M : Nat → Int} (h : ∀ j : Nat, j < 40 → L j = M j) {a b c d : Nat} (hb : a < 40 ∧ b < 40 ∧ c < 40 ∧ d < 40) : S.U L a b c d = S.U M a b c d := by
  unfold St.U
  rw [h a hb.1, h b hb.2.1, h c hb.2.2.1, h d hb.2.2.2]
def St.liOk (S : St) : Prop := ∀ j : Nat, j < 40 → S.li j = S.liR j
theorem St.okE_alw {S : St} (hli : S.liOk) {a b c d : Nat} (hb : a < 40 ∧ b < 40 ∧ c < 40 ∧ d < 40) : S.okE a b c d ↔ S.alw a b c d := by
  unfold St.okE St.alw
  rw [St.und_U, St.U_congr S hli hb]
/-- an edge that isn't allowed waits -/
def St.w4x (S : St) (P : Nat → Nat → Prop) : Prop := ∀ x y : Nat, x < y → y < 40 → S.ap (x * 40 + y) ≠ -1 → S.ap (y * 40 + x) ≠ -1 → ¬ S.bound x y → ¬ S.alw x y (S.ap (x * 40 + y)).toNat (S.ap (y * 40 + x)).toNat → S.wt x y ∨ P x y
abbrev St.w4 (S : St) : Prop := S.w4x (fun _ _ => False)
/-- all edges are allowed but those that must stay -/
def St.Del (S : St) : Prop := ∀ x y : Nat, x < y → y < 40 → S.ap (x * 40 + y) ≠ -1 → S.ap (y * 40 + x) ≠ -1 → ¬ S.bound x y → S.alw x y (S.ap (x * 40 + y)).toNat (S.ap (y * 40 + x)).toNat
theorem St.w4_flip {S : St} {a b c d : Nat} (hb : a < 40 ∧ b < 40 ∧ c < 40 ∧ d < 40) (hn : a ≠ b ∧ b ≠ c ∧ c ≠ a ∧ a ≠ d ∧ b ≠ d ∧ c ≠ d) (hw : S.wq) {P : Nat → Nat → Prop} (h : S.w4x (fun x y => (x = a ∧ y = b) ∨ (x = b ∧ y = a) ∨ P x y)) : (S.flip a b c d).w4x P := by
  obtain ⟨k0, k1, k2, k3, k4, k5⟩ := St.flip_wq hw hb.1 hb.2.1 hb.2.2.1 hb.2.2.2 hn
  have hfa := St.flip_ap S a b c d
  obtain ⟨ap, wa, qu, qn, est⟩ := St.flip_st S a b c d
  obtain ⟨ba, bb, bc, bd⟩ := hb
  obtain ⟨n1, n2, n3, n4, n5, n6⟩ := hn
  intro x y hxy hy p1 p2 p3 p4
  have side : ∀ u v : Nat, u ≠ v → (S.flip a b c d).wtu u v → (x = u ∧ y = v) ∨ (x = v ∧ y = u) → (S.flip a b c d).wt x y := by
    intro u v huv hw z
    rcases z with ⟨z1, z2⟩ | ⟨z1, z2⟩
    · subst z1; subst z2; exact St.wtu_lt hxy hw
    · subst z1; subst z2; exact St.wtu_lt hxy (St.wtu_sym huv hw)
  by_cases c1 : (x = a ∧ y = d) ∨ (x = d ∧ y = a)
  · exact Or.inl (side a d n4 k1 c1)
  by_cases c2 : (x = d ∧ y = c) ∨ (x = c ∧ y = d)
  · exact Or.inl (side d c (fun z => n6 z.symm) k2 c2)
  by_cases c3 : (x = c ∧ y = a) ∨ (x = a ∧ y = c)
  · exact Or.inl (side c a n3 k3 c3)
  by_cases c4 : (x = d ∧ y = b) ∨ (x = b ∧ y = d)
  · exact Or.inl (side d b (fun z => n5 z.symm) k4 c4)
  by_cases c5 : (x = b ∧ y = c) ∨ (x = c ∧ y = b)
  · exact Or.inl (side b c n2 k5 c5)
  have far : ∀ u v : Nat, u < 40 → v < 40 → ¬ (u = a ∧ v = d) → ¬ (u = d ∧ v = c) → ¬ (u = c ∧ v = d) → ¬ (u = c ∧ v = a) → ¬ (u = d ∧ v = b) → ¬ (u = b ∧ v = c) → (S.flip a b c d).ap (u * 40 + v) = if u * 40 + v = b * 40 + a then -1 else if u * 40 + v = a * 40 + b then -1 else S.ap (u * 40 + v) := by
    intro u v hu hv q1 q2 q3 q4 q5 q6
    rw [hfa, if_neg (by omega), if_neg (by omega), if_neg (by omega), if_neg (by omega), if_neg (by omega), if_neg (by omega)]
  have f1 := far x y (by omega) hy (by omega) (by omega) (by omega) (by omega) (by omega) (by omega)
  have f2 := far y x hy (by omega) (by omega) (by omega) (by omega) (by omega) (by omega) (by omega)
  by_cases c6 : x = a ∧ y = b
  · exfalso; apply p1; rw [f1]; split
    · rfl
    · rw [if_pos (by omega)]
  by_cases c7 : x = b ∧ y = a
  · exfalso; apply p1; rw [f1, if_pos (by omega)]
  rw [if_neg (by omega), if_neg (by omega)] at f1 f2
  rw [f1] at p1 p4
  rw [f2] at p2 p4
  have p3' : ¬ S.bound x y := by rw [est] at p3; exact p3
  have p4' : ¬ S.alw x y (S.ap (x * 40 + y)).toNat (S.ap (y * 40 + x)).toNat := by rw [est] at p4; exact p4
  rcases h x y hxy hy p1 p2 p3' p4' with z | z | z | z
  · exact Or.inl (k0.2.1 x y z)
  · exact absurd z c6
  · exact absurd z c7
  · exact Or.inr z
def St.Run (S : St) : Prop := S.Msh ∧ S.wI ∧ S.wq ∧ S.liOk
theorem St.sameO_refl (S : St) : S.sameO S := ⟨S.ap, S.wa, S.qu, S.qn, rfl⟩
theorem St.sameO_trans {S T R : St} (h : S.sameO T) (k : T.sameO R) : S.sameO R := by
  obtain ⟨ap, wa, qu, qn, e⟩ := h
  obtain ⟨ap2, wa2, qu2, qn2, e2⟩ := k
  subst e
  exact ⟨ap2, wa2, qu2, qn2, e2⟩
theorem St.sameO_pop (S : St) (a b : Nat) : S.sameO (S.popW a b) := ⟨S.ap, _, S.qu, _, rfl⟩
theorem St.liOk_O {S T : St} (h : S.sameO T) (k : S.liOk) : T.liOk := by
  obtain ⟨ap, wa, qu, qn, e⟩ := h
  subst e
  exact k
/-- one round -/
theorem St.rnd1_ok {S : St} {L : Nat → Int} (hL : S.goodL L) (h : S.Run) (h4 : S.w4) (hq : 0 < S.qn) : S.rnd1.Run ∧ S.rnd1.w4 ∧ S.sameO S.rnd1 ∧ 6 * S.rnd1.Phi L + S.rnd1.qn < 6 * S.Phi L + S.qn := by
  obtain ⟨hM, hw, hwq, hli⟩ := h
  obtain ⟨a, b, hab, hb, e1, e2, kq, kw⟩ := St.pop_wq hwq hq
  have er : S.rnd1 = (S.popW a b).fix1 a b := by
    unfold St.rnd1
    rw [e1, e2]
  have pM : (S.popW a b).Msh := St.Msh_geo (St.geo_mk rfl rfl rfl rfl) rfl hM
  have pI : (S.popW a b).wI := St.popW_wI hw hq
  have pO := St.sameO_pop S a b
  have pL : (S.popW a b).goodL L := St.goodL_O pO hL
  have pli : (S.popW a b).liOk := St.liOk_O pO hli
  have pPhi : (S.popW a b).Phi L = S.Phi L := rfl
  have pqn : (S.popW a b).qn = S.qn - 1 := rfl
  have p4 : (S.popW a b).w4x (fun x y => (x = a ∧ y = b) ∨ (x = b ∧ y = a) ∨ False) := by
    intro x y hxy hy q1 q2 q3 q4
    rcases h4 x y hxy hy q1 q2 q3 q4 with z | z
    · rcases kw x y z with y1 | y1
      · exact Or.inl y1
      · exact Or.inr (Or.inl y1)
    · exact z.elim
  rw [er]
  generalize S.popW a b = T at *
  by_cases c0 : T.toFlip a b
  · rw [St.fix1_yes c0]
    obtain ⟨⟨q1, q2⟩, q3, q4⟩ := c0
    obtain ⟨c, d, f1, f2, g1, g2, g3, g4, g5⟩ := St.two pM.1 (show a < 40 by omega) hb q1 q2
    rw [f1, f2, Int.toNat_natCast, Int.toNat_natCast] at q4 ⊢
    rw [St.okE_alw pli g1] at q4
    have hU := (pL.2 a b c d g1 g2 g3 g4 g5).2 q4
    have quad := St.two_quad pM.1 pL.1 g1 f1 f2 (by omega)
    obtain ⟨w0, -⟩ := St.flip_wq kq g1.1 g1.2.1 g1.2.2.1 g1.2.2.2 g3
    have fO := St.flip_st T a b c d
    refine ⟨⟨St.Msh_flip pM quad q3, St.flip_wI g1.1 g1.2.1 g1.2.2.1 g1.2.2.2 pI, w0.1, St.liOk_O fO pli⟩, St.w4_flip g1 g3 kq p4, St.sameO_trans pO fO, ?_⟩
    have := St.Phi_flip pM.1 pL.1 quad hU
    have := w0.2.2
    omega
  · rw [St.fix1_no c0]
    refine ⟨⟨pM, pI, kq, pli⟩, ?_, pO, by omega⟩
    intro x y hxy hy q1 q2 q3 q4
    rcases p4 x y hxy hy q1 q2 q3 q4 with z | z | z | z
    · exact Or.inl z
    · exfalso
      obtain ⟨z1, z2⟩ := z
      subst z1
      subst z2
      obtain ⟨c, d, f1, f2, g1, -⟩ := St.two pM.1 (show x < 40 by omega) hy q1 q2
      rw [f1, f2, Int.toNat_natCast, Int.toNat_natCast] at q4
      rw [← St.okE_alw pli g1] at q4
      exact c0 ⟨⟨q1, q2⟩, q3, by rw [f1, f2, Int.toNat_natCast, Int.toNat_natCast]; exact q4⟩
    · omega
    · exact z.elim
theorem St.stl_ok {L : Nat → Int} : ∀ (n : Nat) {S : St}, S.goodL L → S.Run → S.w4 → 6 * S.Phi L + S.qn < (n : Int) → (St.stl n S).Run ∧ (St.stl n S).w4 ∧ S.sameO (St.stl n S) ∧ (St.stl n S).qn = 0 := by
  intro n
  induction n with
  | zero =>
    intro S _ h _ hn
    have := (S.Phi_bd L).1
    have := h.2.2.1.2.2.2
    omega
  | succ n ih =>
    intro S hL h h4 hn
    by_cases c0 : 0 < S.qn
    · rw [St.stl_go c0]
      obtain ⟨k1, k2, k3, k4⟩ := St.rnd1_ok hL h h4 c0
      obtain ⟨l1, l2, l3, l4⟩ := ih (St.goodL_O k3 hL) k1 k2 (by omega)
      exact ⟨l1, l2, St.sameO_trans k3 l3, l4⟩
    · rw [St.stl_end c0]
      have := h.2.2.1.2.2.2
      exact ⟨h, h4, St.sameO_refl S, by omega⟩
/-- settled: the mesh, with all that was told, and each edge allowed -/
theorem St.settled {S : St} (h : S.Run) (h4 : S.w4) : (St.stl 1000000 S).Run ∧ S.sameO (St.stl 1000000 S) ∧ (St.stl 1000000 S).qn = 0 ∧ (St.stl 1000000 S).Del := by
  obtain ⟨L, hL⟩ := St.goodL_ex h.1.1
  have h1 := S.Phi_bd L
  have h2 := St.wq_lt h.2.2.1
  obtain ⟨k1, k2, k3, k4⟩ := St.stl_ok 1000000 hL h h4 (by omega)
  refine ⟨k1, k3, k4, ?_⟩
  intro x y hxy hy q1 q2 q3
  apply Classical.byContradiction
  intro q4
  rcases k2 x y hxy hy q1 q2 q3 q4 with z | z
  · obtain ⟨i, m1, -⟩ := k1.2.2.1.2.2.1 x y hxy hy z
    omega
  · exact z
