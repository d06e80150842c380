/-! AN EDGE FIXED, between calls. By hand. -/
theorem St.cut_sym {S : St} {u v : Nat} {x y X Y : Int} (h : S.cut u v x y X Y) : S.cut v u x y X Y := by
  obtain ⟨h1, h2⟩ := h
  have e1 : S.sd v u x y = -S.sd u v x y := by unfold St.sd; grind
  have e2 : S.sd v u X Y = -S.sd u v X Y := by unfold St.sd; grind
  refine ⟨?_, ?_⟩
  · rw [e1, e2]; unfold opp at *; omega
  · unfold opp at *; omega
/-- an edge stands in the rows -/
theorem St.row_E {S : St} (hl : S.lstE 1600) {E : Nat} (hE : S.ec = (E : Int)) {u v : Nat} (hv : v < 40) (hu : u < 40) (huv : u < v) (su : S.has u) (h : S.E u v ∨ S.E v u) : ∃ t : Nat, t < E ∧ S.e1 t = u ∧ S.e2 t = v := by
  have hm : u * 40 + v ∈ S.el 1600 := St.el_mem.mpr ⟨by omega, (St.isEdg_code hv).mpr ⟨huv, su, h⟩⟩
  obtain ⟨t, ht⟩ := List.mem_iff_getElem?.mp hm
  obtain ⟨⟨l1, l2, -⟩, -⟩ := hl
  have htl : t < (S.el 1600).length := by
    rcases Nat.lt_or_ge t (S.el 1600).length with q | q
    · exact q
    · rw [List.getElem?_eq_none q] at ht; cases ht
  obtain ⟨m1, m2⟩ := l2 t _ ht
  exact ⟨t, by omega, by unfold St.e1; rw [m1]; omega, by unfold St.e2; rw [m2]; omega⟩
theorem St.free2_of {S : St} (hM : S.Msh) (hl : S.lstE 1600) {E : Nat} (hE : S.ec = (E : Int)) {a b : Nat} (h : S.sightE a b E) : S.free2 a b := by
  have one : ∀ u v : Nat, u < 40 → v < 40 → u < v → S.bound u v → ¬ S.cut u v (S.xs a) (S.ys a) (S.xs b) (S.ys b) := by
    intro u v hu hv huv hb hc
    obtain ⟨-, su, -, hEd⟩ := hM.2.1.1 u v hu hv hb
    obtain ⟨t, ht, e1, e2⟩ := St.row_E hl hE hv hu huv su hEd
    exact h t ht (by rw [e1, e2]; exact ⟨hb, hc⟩)
  intro u v hu hv hb hc
  rcases Nat.lt_trichotomy u v with z | z | z
  · exact one u v hu hv z hb hc
  · subst z
    have : S.sd u u (S.xs a) (S.ys a) = 0 := by unfold St.sd; grind
    obtain ⟨h1, -⟩ := hc
    unfold opp at h1
    omega
  · exact one v u hv hu z (hM.2.1.1 u v hu hv hb).1 (St.cut_sym hc)
/-- what holds in each round while a and b are made an edge -/
def St.fI (S : St) (a b n : Nat) (S' : St) : Prop := S'.Msh ∧ S'.wI ∧ S'.wq ∧ S'.w4 ∧ S'.Cor ∧ (∀ j : Nat, j < 40 → S'.li j = S.liS a b j) ∧ S'.lstE 1600 ∧ S'.lstT 1600 ∧ S.tld S' ∧ S'.rd = S.rd ∧ (bt (S'.ne a) b = true ∨ S'.Phi (S.LF a b) < (n : Int))
theorem St.liS_eq {S T : St} (hx : T.xs = S.xs) (hy : T.ys = S.ys) (a b : Nat) : T.liS a b = S.liS a b := by
  funext j
  unfold St.liS St.sd3 St.sd
  rw [hx, hy]
theorem St.LF_eq {S T : St} (hx : T.xs = S.xs) (hy : T.ys = S.ys) (a b : Nat) : T.LF a b = S.LF a b := by
  funext j
  unfold St.LF
  rw [St.liS_eq hx hy]
  unfold St.liR
  rw [hx, hy]
theorem St.sightP_eq {S T : St} (hx : T.xs = S.xs) (hy : T.ys = S.ys) (ht : T.th = S.th) {a b n : Nat} (h : S.sightP a b n) : T.sightP a b n := by
  unfold St.sightP St.betw St.sd3 St.sd St.dot St.has at *
  rw [hx, hy, ht]
  exact h
theorem St.fI_fx {S : St} (hM : S.Msh) (hlE : S.lstE 1600) {a b E0 : Nat} (ha : a < 40) (hb : b < 40) (hE0 : S.ec = (E0 : Int)) (hs : S.sight a b E0) : fxI a b (fun n S' => S.fI a b n S') := by
  obtain ⟨sa, sb, hab, hP, hSE⟩ := hs
  have hX := St.free2_of hM hlE hE0 hSE
  refine ⟨fun n S' h => ?_, fun S' h => ?_, fun n S' E h hE hnear => ?_, fun n S' h hnear => ?_⟩
  · obtain ⟨h1, h2, h3, h4, h5, h6, h7, h8, h9, h10, h11⟩ := h
    exact ⟨h2, h2.CN.2, (S'.el 1600).length, (St.Msh_okL h1 h5).2.2.2, h7.1.1⟩
  · obtain ⟨h1, h2, h3, h4, h5, h6, h7, h8, h9, h10, h11⟩ := h
    rcases h11 with z | z
    · exact z
    · have := (S'.Phi_bd (S.LF a b)).1
      omega
  · obtain ⟨h1, h2, h3, h4, h5, h6, h7, h8, h9, h10, h11⟩ := h
    obtain ⟨t1, t2, t3, t4, t5, t6, t7, t8, t9⟩ := id h9
    have hne := St.near_E h1.1.PM h7 ha hb
    have hX' : S'.free2 a b := by unfold St.free2 St.bound St.cut St.sd at *; rw [t1, t2, t4]; exact hX
    obtain ⟨⟨g1, g2, g3, g4, g5⟩, g6⟩ := St.pass_lt ha hb (show S'.has a by unfold St.has; rw [t7]; exact sa) (show S'.has b by unfold St.has; rw [t7]; exact sb) hab hE (by have := (St.Msh_okL h1 h5).2.2.2; have := h7.1.1; omega) h2.CN.2 (fun j hj => by rw [h6 j hj, St.liS_eq t1 t2]) hX' h1 h2 h3 h4 h7 (fun q hq => St.sightP_eq t1 t2 t7 hP q hq) (fun z => hnear (hne.mpr (Or.inl z))) (fun z => hnear (hne.mpr (Or.inr z)))
    rw [St.LF_eq t1 t2] at g6
    have tF := St.tld_trans h9 (St.tld_O g5)
    obtain ⟨ap, wa, qu, qn, e⟩ := g5
    have erd : (St.fcl a b E 0 S').rd = S.rd := by rw [e]; exact h10
    have eli : (St.fcl a b E 0 S').li = S'.li := by rw [e]; rfl
    have hPhi : (St.fcl a b E 0 S').Phi (S.LF a b) < (n : Int) := by
      rcases h11 with z | z
      · exact absurd z hnear
      · omega
    generalize St.fcl a b E 0 S' = F at *
    have hcF : F.Cor := St.Cor_eq (tF.1.trans t1.symm) (tF.2.1.trans t2.symm) (tF.2.2.2.2.2.2.1.trans t7.symm) h5
    refine ⟨St.Msh_okL g1 hcF, g2.CN, fun ow co en ne tn ec q1 q2 => ?_⟩
    exact ⟨St.cong_Msh (St.cong_ul F g2.B ow co en ne tn ec) g1, ⟨g2.A, g2.Q, g2.B, g2.I, g2.U, q2.2, q1.2⟩, g3, g4, hcF, fun j hj => by rw [← h6 j hj, ← eli]; rfl, q1, q2, St.tld_trans tF ⟨rfl, rfl, rfl, rfl, rfl, rfl, rfl, rfl, rfl⟩, erd, Or.inr hPhi⟩
  · obtain ⟨h1, h2, h3, h4, h5, h6, h7, h8, h9, h10, h11⟩ := h
    have hne := St.near_E h1.1.PM h7 ha hb
    obtain ⟨q1, q2, q3, q4, q5, -⟩ := St.bnd_pre h1 h2 h3 h4 h5 ha hb (hne.mp hnear)
    exact St.rest_setL q1 q2 q3 q4 q5
theorem k_fix {pre post : pW} {m : Nat} (hm : pre.length = m) {S : St} (hS : S.Ok) {a b E : Nat} (ha : a < 40) (hb : b < 40) (hE : S.ec = (E : Int)) (hs : S.sight a b E) : qC 11 [.ref m, .int (iI (a : Int)), .int (iI (b : Int))] (pre ++ (mB m S ++ post)) (fun r w' => r = none ∧ ∃ R : St, R.Ok ∧ (R.xs = S.xs ∧ R.ys = S.ys ∧ R.th = S.th ∧ ∀ x y : Nat, R.bound x y ↔ S.bound x y ∨ eU a b x y) ∧ S.rst R ∧ w' = pre ++ (mB m R ++ post)) := by
  have hI := St.fI_fx hS.M hS.2.1 ha hb hE hs
  refine qc_mono (c_fixEdge hm S ha hb hS.B hI (fun li hli => ?_)) (fun r w' h => ?_)
  · have hcg : S.cong (S.u_li li) := ⟨hS.B, fun _ _ => Iff.rfl, fun _ _ _ => ⟨rfl, rfl⟩, fun _ _ => rfl, fun _ _ _ _ => Iff.rfl⟩
    have hlb : ∀ j : Nat, j < 40 → 0 ≤ li j ∧ li j ≤ 8000000 := fun j hj => by
      rw [hli j hj]
      have := S.sd3_b hS.B ha hb hj
      unfold St.liS zabs
      split <;> omega
    refine ⟨St.cong_Msh hcg hS.M, St.u_li_wI hS.I hlb, hS.1.2.2.2.1, St.Del_w4 hS.1.2.1, hS.Co, hli, hS.2.1, hS.2.2.1, ⟨rfl, rfl, rfl, rfl, rfl, rfl, rfl, rfl, rfl⟩, rfl, Or.inr ?_⟩
    have := ((S.u_li li).Phi_bd (S.LF a b)).2
    omega
  · obtain ⟨n, S', ⟨h1, h2, h3, h4, h5, h6, h7, h8, h9, h10, h11⟩, hnear, hW⟩ := h
    have hne := St.near_E h1.1.PM h7 ha hb
    obtain ⟨q1, q2, q3, q4, q5, q6⟩ := St.bnd_pre h1 h2 h3 h4 h5 ha hb (hne.mp hnear)
    obtain ⟨t1, t2, t3, t4, t5, t6, t7, t8, t9⟩ := id h9
    have kRg : (S'.bnd a b).Rg := by
      obtain ⟨r1, r2, r3, r4, r5⟩ := St.Rg_tld h9 hS.2.2.2.2
      exact ⟨r1, r2, r3, St.hiF_bnd ha hb r4, r5⟩
    have kR : (S'.bnd a b).okR := by
      show ∀ j : Nat, j < 40 → 0 ≤ S'.rd j ∧ S'.rd j < 40
      rw [h10]
      exact hS.2.2.2.1
    obtain ⟨g1, R, g2, g3, g4⟩ := setW_ok q1 q2 q3 q4 q5 kR kRg hW
    obtain ⟨u1, u2, u3, u4, u5, u6, u7, u8, u9⟩ := g3
    refine ⟨g1, R, g2, ⟨u1.trans t1, u2.trans t2, u7.trans t7, fun x y => ?_⟩, ⟨u3.trans t3, u5.trans t5, u6.trans t6, u8.trans t8, u9.trans t9⟩, g4⟩
    have := q6 x y
    unfold St.bound at *
    rw [u4, this, t4]
