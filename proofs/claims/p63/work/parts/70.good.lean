/-! GOOD STATES: what each change leaves, when it is settled. By hand. -/
/-- a mesh at rest: whole, each edge allowed, nothing waits -/
def St.Gd (S : St) : Prop := S.Msh ∧ S.Del ∧ S.wI ∧ S.wq ∧ S.qn = 0 ∧ S.Cor ∧ S.liOk
theorem St.Del_w4 {S : St} (h : S.Del) : S.w4 := fun x y hxy hy q1 q2 q3 q4 => absurd (h x y hxy hy q1 q2 q3) q4
/-- all that was told, but what hangs on the mesh alone -/
def St.tld (S T : St) : Prop := T.xs = S.xs ∧ T.ys = S.ys ∧ T.hs = S.hs ∧ T.fx = S.fx ∧ T.hx = S.hx ∧ T.hy = S.hy ∧ T.th = S.th ∧ T.hn = S.hn ∧ T.g = S.g
theorem St.tld_O {S T : St} (h : S.sameO T) : S.tld T := by
  obtain ⟨ap, wa, qu, qn, e⟩ := h
  rw [e]
  exact ⟨rfl, rfl, rfl, rfl, rfl, rfl, rfl, rfl, rfl⟩
theorem St.tld_trans {S T R : St} (h : S.tld T) (k : T.tld R) : S.tld R := by
  obtain ⟨h1, h2, h3, h4, h5, h6, h7, h8, h9⟩ := h
  obtain ⟨k1, k2, k3, k4, k5, k6, k7, k8, k9⟩ := k
  exact ⟨k1.trans h1, k2.trans h2, k3.trans h3, k4.trans h4, k5.trans h5, k6.trans h6, k7.trans h7, k8.trans h8, k9.trans h9⟩
theorem St.Cor_eq {S T : St} (hx : T.xs = S.xs) (hy : T.ys = S.ys) (ht : T.th = S.th) (h : S.Cor) : T.Cor := by
  unfold St.Cor St.has at *
  rw [hx, hy, ht]
  exact h
/-- settled, whatever changed it -/
theorem St.rest {T : St} (hM : T.Msh) (hI : T.wI) (hq : T.wq) (h4 : T.w4) (hc : T.Cor) {li : Nat → Int} (hli : ∀ j : Nat, j < 40 → li j = T.liR j) : (St.stl 1000000 (T.u_li li)).Gd ∧ (St.stl 1000000 (T.u_li li)).okL ∧ T.tld (St.stl 1000000 (T.u_li li)) ∧ (St.stl 1000000 (T.u_li li)).rd = T.rd := by
  have hM2 : (T.u_li li).Msh := St.Msh_geo (St.geo_mk rfl rfl rfl rfl) rfl hM
  have hI2 : (T.u_li li).wI := St.u_li_wI hI (fun j hj => by rw [hli j hj]; exact St.liR_b hI.B hj)
  have hq2 : (T.u_li li).wq := hq
  have h42 : (T.u_li li).w4 := h4
  have hli2 : (T.u_li li).liOk := hli
  obtain ⟨k1, k2, k3, k4⟩ := St.settled (S := T.u_li li) ⟨hM2, hI2, hq2, hli2⟩ h42
  have hT : T.tld (T.u_li li) := ⟨rfl, rfl, rfl, rfl, rfl, rfl, rfl, rfl, rfl⟩
  have ht := St.tld_trans hT (St.tld_O k2)
  have hrd : (St.stl 1000000 (T.u_li li)).rd = T.rd := by
    obtain ⟨ap, wa, qu, qn, e⟩ := k2
    rw [e]
    rfl
  generalize St.stl 1000000 (T.u_li li) = E at *
  have hc2 : E.Cor := St.Cor_eq ht.1 ht.2.1 ht.2.2.2.2.2.2.1 hc
  exact ⟨⟨k1.1, k4, k1.2.1, k1.2.2.1, k3, hc2, k1.2.2.2⟩, St.Msh_okL k1.1 hc2, ht, hrd⟩
theorem St.rest_setL {T : St} (hM : T.Msh) (hI : T.wI) (hq : T.wq) (h4 : T.w4) (hc : T.Cor) : T.setL := fun li hli => (St.rest hM hI hq h4 hc hli).2.1
/-- told: what was told of the others stays -/
theorem St.joi_tld (T : St) (a b p : Nat) : (T.joi a b p).hs = T.hs ∧ (T.joi a b p).hx = T.hx ∧ (T.joi a b p).hy = T.hy ∧ (T.joi a b p).hn = T.hn ∧ (T.joi a b p).g = T.g ∧ (T.joi a b p).rd = T.rd := by
  have hp : ∀ (R : St) (x y z : Nat), (R.put x y z).hs = R.hs ∧ (R.put x y z).hx = R.hx ∧ (R.put x y z).hy = R.hy ∧ (R.put x y z).hn = R.hn ∧ (R.put x y z).g = R.g ∧ (R.put x y z).rd = R.rd := by
    intro R x y z
    obtain ⟨w, u, n, e⟩ := St.put_st R x y z
    rw [e]
    exact ⟨rfl, rfl, rfl, rfl, rfl, rfl⟩
  have hc : (T.cut2 a b p).hs = T.hs ∧ (T.cut2 a b p).hx = T.hx ∧ (T.cut2 a b p).hy = T.hy ∧ (T.cut2 a b p).hn = T.hn ∧ (T.cut2 a b p).g = T.g ∧ (T.cut2 a b p).rd = T.rd := by
    unfold St.cut2
    split
    · exact ⟨rfl, rfl, rfl, rfl, rfl, rfl⟩
    · exact ⟨rfl, rfl, rfl, rfl, rfl, rfl⟩
  by_cases c0 : 0 < T.sd3 a b p
  · rw [St.joi_in c0]
    exact hp T a b p
  · rw [St.joi_on c0]
    by_cases c1 : T.ap (b * 40 + a) = -1
    · rw [St.cut3_0 c1]
      exact hc
    · rw [St.cut3_1 c1]
      unfold St.spl
      have h1 := hp (((T.cut2 a b p).strip b a (T.ap (b * 40 + a)).toNat).put a (T.ap (b * 40 + a)).toNat p) (T.ap (b * 40 + a)).toNat b p
      have h2 := hp ((T.cut2 a b p).strip b a (T.ap (b * 40 + a)).toNat) a (T.ap (b * 40 + a)).toNat p
      exact ⟨h1.1.trans (h2.1.trans hc.1), h1.2.1.trans (h2.2.1.trans hc.2.1), h1.2.2.1.trans (h2.2.2.1.trans hc.2.2.1), h1.2.2.2.1.trans (h2.2.2.2.1.trans hc.2.2.2.1), h1.2.2.2.2.1.trans (h2.2.2.2.2.1.trans hc.2.2.2.2.1), h1.2.2.2.2.2.trans (h2.2.2.2.2.2.trans hc.2.2.2.2.2)⟩
theorem St.ins0_tld (S : St) (p a b c : Nat) (x y : Int) : (S.ins0 p x y a b c).hs = S.hs ∧ (S.ins0 p x y a b c).hx = S.hx ∧ (S.ins0 p x y a b c).hy = S.hy ∧ (S.ins0 p x y a b c).hn = S.hn ∧ (S.ins0 p x y a b c).g = S.g ∧ (S.ins0 p x y a b c).rd = S.rd := by
  unfold St.ins0
  have h1 := St.joi_tld ((((S.plc p x y).strip a b c).joi a b p).joi b c p) c a p
  have h2 := St.joi_tld (((S.plc p x y).strip a b c).joi a b p) b c p
  have h3 := St.joi_tld ((S.plc p x y).strip a b c) a b p
  exact ⟨h1.1.trans (h2.1.trans h3.1), h1.2.1.trans (h2.2.1.trans h3.2.1), h1.2.2.1.trans (h2.2.2.1.trans h3.2.2.1), h1.2.2.2.1.trans (h2.2.2.2.1.trans h3.2.2.2.1), h1.2.2.2.2.1.trans (h2.2.2.2.2.1.trans h3.2.2.2.2.1), h1.2.2.2.2.2.trans (h2.2.2.2.2.2.trans h3.2.2.2.2.2)⟩
/-- the four corners aren't touched where a point is put in -/
theorem St.Cor_plc {S T : St} {p : Nat} {x y : Int} (hp : p < 40) (hnp : ¬ S.has p) (hc : S.Cor) (hx : T.xs = (S.plc p x y).xs) (hy : T.ys = (S.plc p x y).ys) (ht : T.th = (S.plc p x y).th) : T.Cor := by
  obtain ⟨⟨s0, s1, s2, s3⟩, ⟨x0, y0⟩, ⟨x1, y1⟩, ⟨x2, y2⟩, x3, y3⟩ := hc
  have h0 : 0 ≠ p := fun z => hnp (by rw [← z]; exact s0)
  have h1 : 1 ≠ p := fun z => hnp (by rw [← z]; exact s1)
  have h2 : 2 ≠ p := fun z => hnp (by rw [← z]; exact s2)
  have h3 : 3 ≠ p := fun z => hnp (by rw [← z]; exact s3)
  have hh : ∀ u : Nat, S.has u → T.has u := fun u hu => by
    unfold St.has
    rw [ht]
    exact (St.plc_has S x y hp u).mpr (Or.inl hu)
  unfold St.Cor
  rw [hx, hy, St.plc_x S p x y h0, St.plc_x S p x y h1, St.plc_x S p x y h2, St.plc_x S p x y h3, St.plc_y S p x y h0, St.plc_y S p x y h1, St.plc_y S p x y h2, St.plc_y S p x y h3]
  exact ⟨⟨hh 0 s0, hh 1 s1, hh 2 s2, hh 3 s3⟩, ⟨x0, y0⟩, ⟨x1, y1⟩, ⟨x2, y2⟩, x3, y3⟩
/-- a point put in, before it is settled -/
theorem St.ins_pre {S : St} (h : S.Gd) {p a b c : Nat} {x y : Int} (hp : p < 40) (hnp : ¬ S.has p) (hin : inSq x y) (hfree : ∀ q : Nat, q < 40 → S.has q → ¬ (S.xs q = x ∧ S.ys q = y)) (ha : a < 40) (hb : b < 40) (hc : c < 40) (h1 : S.ap (a * 40 + b) = (c : Int)) (s1 : 0 ≤ S.sd a b x y) (s2 : 0 ≤ S.sd b c x y) (s3 : 0 ≤ S.sd c a x y) : (S.ins0 p x y a b c).Msh ∧ (S.ins0 p x y a b c).wI ∧ (S.ins0 p x y a b c).wq ∧ (S.ins0 p x y a b c).w4 ∧ (S.ins0 p x y a b c).Cor := by
  obtain ⟨hM, hD, hI, hq, hn, hcor, -⟩ := h
  obtain ⟨k1, k2, k3, k4, k5, k6, -⟩ := St.ins_ok hM hq (St.Del_w4 hD) hp hnp hin hfree ha hb hc h1 s1 s2 s3
  exact ⟨k1, St.ins0_wI hp ha hb hc hin hI, k2, k3, St.Cor_plc hp hnp hcor k4 k5 k6⟩
/-- a fixed edge freed, before it is settled -/
theorem St.free_pre {S : St} (h : S.Gd) {a b : Nat} (ha : a < 40) (hb : b < 40) (hab : S.bound a b) (hin : S.ap (a * 40 + b) ≠ -1 ∧ S.ap (b * 40 + a) ≠ -1) : ((S.unb a b).aw a b).Msh ∧ ((S.unb a b).aw a b).wI ∧ ((S.unb a b).aw a b).wq ∧ ((S.unb a b).aw a b).w4 ∧ ((S.unb a b).aw a b).Cor ∧ ∀ x y : Nat, (((S.unb a b).aw a b).bound x y ↔ S.bound x y ∧ ¬ eU a b x y) := by
  obtain ⟨hM, hD, hI, hq, hn, hcor, -⟩ := h
  obtain ⟨hG, ⟨hf1, hf2⟩, hE⟩ := hM
  obtain ⟨sa, sb⟩ := St.E_has hG.PM ha hb hin.1
  have hne : a ≠ b := by
    intro z
    have b1 := hG.2.2.1 (a * 40 + b) (by omega)
    obtain ⟨w, hw⟩ := Int.eq_ofNat_of_zero_le (show 0 ≤ S.ap (a * 40 + b) by omega)
    obtain ⟨-, -, -, g⟩ := hG.2.2.2.2.1 a b w ha hb (by omega) hw
    rw [z, St.sd3_self] at g
    omega
  have hbt := fun x y => St.unb_bt S ha hb hne x y
  have hq0 : (S.unb a b).wq := hq
  obtain ⟨w1, w2⟩ := St.aw_wq hq0 ha hb hne
  obtain ⟨wa, qu, qn, e⟩ := St.aw_st (S.unb a b) a b
  have hI2 : ((S.unb a b).aw a b).wI := St.aw_wI ha hb (St.unb_wI hI)
  have hMu : (S.unb a b).Msh := by
    refine ⟨St.geo_of (fun _ => rfl) (St.geo_mk (S := S) rfl rfl rfl rfl) hG, ⟨fun x y hx hy hxy => ?_, fun x y hx hy z1 z2 => ?_⟩, St.geo_of (P := St.Eul) (fun _ => rfl) (St.geo_mk (S := S) rfl rfl rfl rfl) hE⟩
    · rw [hbt] at hxy
      obtain ⟨k1, k2, k3, k4⟩ := hf1 x y hx hy hxy.1
      rw [hbt]
      exact ⟨⟨k1, fun z => hxy.2 (z.elim (fun r => Or.inr ⟨r.2, r.1⟩) (fun r => Or.inl ⟨r.2, r.1⟩))⟩, k2, k3, k4⟩
    · rw [hbt]
      refine ⟨hf2 x y hx hy z1 z2, fun z => ?_⟩
      have z1' : S.ap (x * 40 + y) ≠ -1 := z1
      have z2' : S.ap (y * 40 + x) = -1 := z2
      rcases z with ⟨q1, q2⟩ | ⟨q1, q2⟩
      · rw [q1, q2] at z2'; exact hin.2 z2'
      · rw [q1, q2] at z2'; exact hin.1 z2'
  have hw4 : ((S.unb a b).aw a b).w4 := by
    intro x y hxy hy q1 q2 q3 q4
    left
    have q1' : S.ap (x * 40 + y) ≠ -1 := by rw [e] at q1; exact q1
    have q2' : S.ap (y * 40 + x) ≠ -1 := by rw [e] at q2; exact q2
    have q3' : ¬ (S.unb a b).bound x y := by rw [e] at q3; exact q3
    have q4' : ¬ S.alw x y (S.ap (x * 40 + y)).toNat (S.ap (y * 40 + x)).toNat := by rw [e] at q4; exact q4
    by_cases c : S.bound x y
    · rw [hbt] at q3'
      have c2 : eU a b x y := Classical.byContradiction (fun z => q3' ⟨c, z⟩)
      rcases c2 with ⟨r1, r2⟩ | ⟨r1, r2⟩
      · subst r1; subst r2; exact St.wtu_lt hxy w2
      · subst r1; subst r2; exact St.wtu_lt hxy (St.wtu_sym hne w2)
    · exact absurd (hD x y hxy hy q1' q2' c) q4'
  refine ⟨?_, hI2, w1.1, hw4, ?_, fun x y => ?_⟩
  · rw [e]
    exact St.Msh_geo (S := S.unb a b) (St.geo_mk rfl rfl rfl rfl) rfl hMu
  · rw [e]
    exact St.Cor_eq (S := S) rfl rfl rfl hcor
  · rw [e]
    exact hbt x y
/-- an edge that is one, fixed -/
theorem St.bnd_pre {S : St} (hM : S.Msh) (hI : S.wI) (hq : S.wq) (h4 : S.w4) (hcor : S.Cor) {a b : Nat} (ha : a < 40) (hb : b < 40) (hE : S.E a b ∨ S.E b a) : (S.bnd a b).Msh ∧ (S.bnd a b).wI ∧ (S.bnd a b).wq ∧ (S.bnd a b).w4 ∧ (S.bnd a b).Cor ∧ ∀ x y : Nat, ((S.bnd a b).bound x y ↔ S.bound x y ∨ eU a b x y) := by
  obtain ⟨hG, ⟨hf1, hf2⟩, hEu⟩ := hM
  obtain ⟨sa, sb⟩ : S.has a ∧ S.has b := hE.elim (fun z => St.E_has hG.PM ha hb z) (fun z => ⟨(St.E_has hG.PM hb ha z).2, (St.E_has hG.PM hb ha z).1⟩)
  have irr : ∀ x : Nat, x < 40 → ¬ S.E x x := by
    intro x hx z
    have b1 := hG.2.2.1 (x * 40 + x) (by omega)
    unfold St.E at z
    obtain ⟨w, hw⟩ := Int.eq_ofNat_of_zero_le (show 0 ≤ S.ap (x * 40 + x) by omega)
    obtain ⟨-, -, -, g⟩ := hG.2.2.2.2.1 x x w hx hx (by omega) hw
    rw [St.sd3_self] at g
    omega
  have hne : a ≠ b := fun z => by rw [z] at hE; exact irr b hb (hE.elim (fun q => q) (fun q => q))
  have hbt := fun x y => St.bnd_bt S ha hb hne x y
  refine ⟨⟨St.geo_of (fun _ => rfl) (St.geo_mk (S := S) rfl rfl rfl rfl) hG, ⟨fun x y hx hy hxy => ?_, fun x y hx hy z1 z2 => ?_⟩, St.geo_of (P := St.Eul) (fun _ => rfl) (St.geo_mk (S := S) rfl rfl rfl rfl) hEu⟩, St.bnd_wI hI, hq, fun x y hxy hy q1 q2 q3 q4 => ?_, St.Cor_eq (S := S) rfl rfl rfl hcor, hbt⟩
  · rw [hbt] at hxy
    rw [hbt]
    rcases hxy with z | ⟨r1, r2⟩ | ⟨r1, r2⟩
    · obtain ⟨k1, k2, k3, k4⟩ := hf1 x y hx hy z
      exact ⟨Or.inl k1, k2, k3, k4⟩
    · subst r1; subst r2
      exact ⟨Or.inr (Or.inr ⟨rfl, rfl⟩), sa, sb, hE⟩
    · subst r1; subst r2
      exact ⟨Or.inr (Or.inl ⟨rfl, rfl⟩), sb, sa, hE.elim (fun q => Or.inr q) (fun q => Or.inl q)⟩
  · rw [hbt]
    exact Or.inl (hf2 x y hx hy z1 z2)
  · rw [hbt] at q3
    exact h4 x y hxy hy q1 q2 (fun z => q3 (Or.inl z)) q4
/-- two meshes at rest, over the same: the same -/
theorem St.Gd_uniq {S T : St} (h : S.Gd) (k : T.Gd) (ht : S.tld T) : ∀ e : Nat, e < 1600 → T.ap e = S.ap e := St.uniq h.1 k.1 h.2.1 k.2.1 ht.1 ht.2.1 ht.2.2.2.2.2.2.1 ht.2.2.2.1
/-- a point that may be taken out is within -/
theorem St.loose_in {S : St} (hM : S.Msh) {p : Nat} (hp : p < 40) (sp : S.has p) (hl : ∀ v : Nat, v < 40 → ¬ S.bound p v) : ¬ S.onB p := by
  intro ob
  obtain ⟨v, hv, v1, v2⟩ := hM.1.2.2.2.2.2.2.2.1 p hp sp ob
  exact hl v hv (hM.2.1.2 p v hp hv v1 v2)
