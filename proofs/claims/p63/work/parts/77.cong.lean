/-! THE SAME MESH IN ANOTHER STATE: a mesh is told by what is there of it. By hand. -/
/-- T has the points, places, triangles and fixed edges of S -/
def St.cong (S T : St) : Prop := T.inB ∧ (∀ p : Nat, p < 40 → (T.has p ↔ S.has p)) ∧ (∀ p : Nat, p < 40 → S.has p → T.xs p = S.xs p ∧ T.ys p = S.ys p) ∧ (∀ e : Nat, e < 1600 → T.ap e = S.ap e) ∧ ∀ u v : Nat, u < 40 → v < 40 → (T.bound u v ↔ S.bound u v)
theorem St.sd3_at {S T : St} {a b c : Nat} (ha : T.xs a = S.xs a ∧ T.ys a = S.ys a) (hb : T.xs b = S.xs b ∧ T.ys b = S.ys b) (hc : T.xs c = S.xs c ∧ T.ys c = S.ys c) : T.sd3 a b c = S.sd3 a b c := by
  unfold St.sd3 St.sd
  rw [ha.1, ha.2, hb.1, hb.2, hc.1, hc.2]
theorem St.Hs_at {S T : St} {a b : Nat} {x y s : Int} (ha : T.xs a = S.xs a ∧ T.ys a = S.ys a) (hb : T.xs b = S.xs b ∧ T.ys b = S.ys b) : T.Hs a b x y s = S.Hs a b x y s := by
  unfold St.Hs
  rw [ha.1, ha.2, hb.1, hb.2]
theorem St.wd_at {S T : St} {a b : Nat} {x y s : Int} (ha : T.xs a = S.xs a ∧ T.ys a = S.ys a) (hb : T.xs b = S.xs b ∧ T.ys b = S.ys b) : T.wd x y s a b = S.wd x y s a b := by
  unfold St.wd
  rw [St.Hs_at ha hb, ha.1, hb.1]
theorem St.ahead_at {S T : St} {a b : Nat} (ha : T.xs a = S.xs a ∧ T.ys a = S.ys a) (hb : T.xs b = S.xs b ∧ T.ys b = S.ys b) : T.ahead a b = S.ahead a b := by
  unfold St.ahead
  rw [ha.1, ha.2, hb.1, hb.2]
theorem St.cong_symm {S T : St} (h : S.cong T) (hB : S.inB) : T.cong S := ⟨hB, fun p hp => (h.2.1 p hp).symm, fun p hp sp => ⟨((h.2.2.1 p hp ((h.2.1 p hp).mp sp)).1).symm, ((h.2.2.1 p hp ((h.2.1 p hp).mp sp)).2).symm⟩, fun e he => (h.2.2.2.1 e he).symm, fun u v hu hv => (h.2.2.2.2 u v hu hv).symm⟩
theorem St.cong_Geo {S T : St} (h : S.cong T) (k : S.Geo) : T.Geo := by
  obtain ⟨hB, hh, hx, hap, -⟩ := h
  obtain ⟨-, kd, kA, kc, kp, kv, kb, kn, ka⟩ := k
  have ends : ∀ e : Nat, e < 1600 → S.ap e ≠ -1 → e / 40 < 40 ∧ e % 40 < 40 ∧ S.has (e / 40) ∧ S.has (e % 40) := by
    intro e he hne
    obtain ⟨a, b, c, ha, hb, hc, e1, e2, e3, -, -, -, s1, s2, -⟩ := St.edge kA kc kp he hne
    rw [e2, e3]
    exact ⟨ha, hb, s1, s2⟩
  have endE : ∀ a b : Nat, a < 40 → b < 40 → S.ap (a * 40 + b) ≠ -1 → S.has a ∧ S.has b := by
    intro a b ha hb hne
    have := ends (a * 40 + b) (by omega) hne
    rw [show (a * 40 + b) / 40 = a by omega, show (a * 40 + b) % 40 = b by omega] at this
    exact ⟨this.2.2.1, this.2.2.2⟩
  refine ⟨hB, fun p q hp hq sp sq e1 e2 => ?_, fun j hj => by rw [hap j hj]; exact kA j hj, fun a b c ha hb hc hz => ?_, fun a b c ha hb hc hz => ?_, fun x y s hg hi => ?_, fun a b ha hb h1 h2 => ?_, fun p hp sp ho => ?_, fun p hp sp => ?_⟩
  · have sp' := (hh p hp).mp sp
    have sq' := (hh q hq).mp sq
    rw [(hx p hp sp').1, (hx q hq sq').1] at e1
    rw [(hx p hp sp').2, (hx q hq sq').2] at e2
    exact kd p q hp hq sp' sq' e1 e2
  · rw [hap _ (by omega)] at hz
    rw [hap _ (by omega), hap _ (by omega)]
    exact kc a b c ha hb hc hz
  · rw [hap _ (by omega)] at hz
    obtain ⟨s1, s2, s3, s4⟩ := kp a b c ha hb hc hz
    rw [St.sd3_at (hx a ha s1) (hx b hb s2) (hx c hc s3)]
    exact ⟨(hh a ha).mpr s1, (hh b hb).mpr s2, (hh c hc).mpr s3, s4⟩
  · have hg' : S.gen x y s := by
      obtain ⟨g0, g1, g2⟩ := hg
      refine ⟨g0, fun u hu su => ?_, fun u v hu hv su sv huv => ?_⟩
      · have := g1 u hu ((hh u hu).mpr su)
        rwa [(hx u hu su).1] at this
      · have := g2 u v hu hv ((hh u hu).mpr su) ((hh v hv).mpr sv) huv
        rwa [St.Hs_at (hx u hu su) (hx v hv sv)] at this
    have e := kv x y s hg' hi
    rw [← e]
    unfold St.Sg
    apply sumR_congr
    intro e he
    rw [hap e he]
    by_cases hne : S.ap e = -1
    · rw [if_pos hne, if_pos hne]
    · rw [if_neg hne, if_neg hne]
      obtain ⟨a1, a2, a3, a4⟩ := ends e he hne
      exact St.wd_at (hx _ a1 a3) (hx _ a2 a4)
  · rw [hap _ (by omega)] at h1 h2
    obtain ⟨s1, s2⟩ := endE a b ha hb h1
    have := kb a b ha hb h1 h2
    unfold St.onside at *
    rw [(hx a ha s1).1, (hx a ha s1).2, (hx b hb s2).1, (hx b hb s2).2]
    exact this
  · have sp' := (hh p hp).mp sp
    unfold St.onB at ho
    rw [(hx p hp sp').1, (hx p hp sp').2] at ho
    obtain ⟨v, hv, g1, g2⟩ := kn p hp sp' ho
    exact ⟨v, hv, by rw [hap _ (by omega)]; exact g1, by rw [hap _ (by omega)]; exact g2⟩
  · obtain ⟨v, hv, g1⟩ := ka p hp ((hh p hp).mp sp)
    exact ⟨v, hv, by rw [hap _ (by omega)]; exact g1⟩
theorem St.cong_Msh {S T : St} (h : S.cong T) (k : S.Msh) : T.Msh := by
  obtain ⟨kG, ⟨f1, f2⟩, e1, e2⟩ := k
  refine ⟨St.cong_Geo h kG, ⟨fun x y hx hy hb => ?_, fun x y hx hy z1 z2 => ?_⟩, ?_, ?_⟩
  all_goals obtain ⟨hB, hh, hx9, hap, hbd⟩ := h
  · obtain ⟨g1, g2, g3, g4⟩ := f1 x y hx hy ((hbd x y hx hy).mp hb)
    rw [hap _ (by omega), hap _ (by omega)]
    exact ⟨(hbd y x hy hx).mpr g1, (hh x hx).mpr g2, (hh y hy).mpr g3, g4⟩
  · rw [hap _ (by omega)] at z1 z2
    exact (hbd x y hx hy).mpr (f2 x y hx hy z1 z2)
  · have a1 : T.SgT (fun _ _ _ => 1) = S.SgT (fun _ _ _ => 1) := by
      unfold St.SgT
      apply sumR_congr
      intro e he
      rw [hap e he]
    have a2 : T.nV = S.nV := by
      unfold St.nV
      apply sumR_congr
      intro p hp
      by_cases sp : S.has p
      · rw [if_pos sp, if_pos ((hh p hp).mpr sp)]
      · rw [if_neg sp, if_neg (fun z => sp ((hh p hp).mp z))]
    have a3 : T.Bd = S.Bd := by
      unfold St.Bd
      apply sumR_congr
      intro e he
      rw [hap e he, hap _ (by omega)]
    rw [a1, a2, a3]
    exact e1
  · rw [← e2]
    unfold St.Sg
    apply sumR_congr
    intro e he
    rw [hap e he]
    by_cases hne : S.ap e = -1
    · rw [if_pos hne, if_pos hne]
    · rw [if_neg hne, if_neg hne]
      obtain ⟨a, b, c, ha, hb, hc, q1, q2, q3, -, -, -, s1, s2, -⟩ := St.edge kG.PM.1 kG.PM.2.1 kG.PM.2.2 he hne
      rw [q2, q3]
      unfold St.arf
      rw [(hx9 a ha s1).1, (hx9 a ha s1).2, (hx9 b hb s2).1, (hx9 b hb s2).2]
theorem St.alw_at {S T : St} {a b c d : Nat} (ha : T.xs a = S.xs a ∧ T.ys a = S.ys a) (hb : T.xs b = S.xs b ∧ T.ys b = S.ys b) (hc : T.xs c = S.xs c ∧ T.ys c = S.ys c) (hd : T.xs d = S.xs d ∧ T.ys d = S.ys d) : T.alw a b c d ↔ S.alw a b c d := by
  have e1 : T.U T.liR a b c d = S.U S.liR a b c d := by
    unfold St.U St.liR St.sd3 St.sd
    simp only [ha.1, ha.2, hb.1, hb.2, hc.1, hc.2, hd.1, hd.2]
  have e2 : T.ahead (T.ahead a b) (T.ahead c d) = S.ahead (S.ahead a b) (S.ahead c d) := by
    rw [St.ahead_at ha hb, St.ahead_at hc hd]
    rcases St.ahead_or S a b with z | z <;> rcases St.ahead_or S c d with y | y <;> rw [z, y]
    · exact St.ahead_at ha hc
    · exact St.ahead_at ha hd
    · exact St.ahead_at hb hc
    · exact St.ahead_at hb hd
  unfold St.alw
  rw [e1, e2]
theorem St.cong_Del {S T : St} (h : S.cong T) (kG : S.Geo) (k : S.Del) : T.Del := by
  obtain ⟨hB, hh, hx, hap, hbd⟩ := h
  intro x y hxy hy z1 z2 z3
  rw [hap _ (by omega)] at z1 z2
  rw [hap _ (by omega), hap _ (by omega)]
  have r := k x y hxy hy z1 z2 (fun z => z3 ((hbd x y (by omega) hy).mpr z))
  obtain ⟨c, hc, g1, -⟩ := St.pres kG.PM.1 kG.PM.2.1 (show x * 40 + y < 1600 by omega) z1
  obtain ⟨d, hd, g2, -⟩ := St.pres kG.PM.1 kG.PM.2.1 (show y * 40 + x < 1600 by omega) z2
  obtain ⟨s1, s2, s3, -⟩ := kG.PM.2.2 x y c (by omega) hy hc g1
  obtain ⟨-, -, s4, -⟩ := kG.PM.2.2 y x d hy (by omega) hd g2
  have ec : ((c : Nat) : Int).toNat = c := by omega
  have ed : ((d : Nat) : Int).toNat = d := by omega
  rw [g1, g2, ec, ed] at r
  rw [g1, g2, ec, ed]
  exact (St.alw_at (hx x (by omega) s1) (hx y hy s2) (hx c hc s3) (hx d hd s4)).mpr r
/-- one mesh alone, told by what is there -/
theorem St.cong_uniq {S T : St} (hM : S.Msh) (hM' : T.Msh) (hD : S.Del) (hD' : T.Del) (hh : ∀ p : Nat, p < 40 → (T.has p ↔ S.has p)) (hx : ∀ p : Nat, p < 40 → S.has p → T.xs p = S.xs p ∧ T.ys p = S.ys p) (hb : ∀ u v : Nat, u < 40 → v < 40 → (T.bound u v ↔ S.bound u v)) : ∀ e : Nat, e < 1600 → T.ap e = S.ap e := by
  have hc : S.cong (((T.u_ap S.ap))) := ⟨hM'.1.1, hh, hx, fun e _ => rfl, hb⟩
  have k1 := St.cong_Msh hc hM
  have k2 := St.cong_Del hc hM.1 hD
  intro e he
  exact St.uniq (S := T.u_ap S.ap) (S' := T) k1 hM' k2 hD' rfl rfl rfl rfl e he
