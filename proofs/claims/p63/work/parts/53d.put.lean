/-! A POINT PUT IN: rows laid by wip/p63/mk53.py -/
theorem St.put_1 {T0 : St} (hPM : T0.PM) (hq : T0.wq) (hd : T0.dist) {a b c p : Nat} (ha : a < 40) (hb : b < 40) (hc : c < 40) (hp : p < 40) (sp : T0.has p) (hpe : ∀ v : Nat, v < 40 → ¬ T0.E p v ∧ ¬ T0.E v p) (h1 : T0.ap (a * 40 + b) = (c : Int)) (hnp : a ≠ p ∧ b ≠ p ∧ c ≠ p) (z1 : T0.sd3 a b p = 0) (z2 : 0 < T0.sd3 b c p) (z3 : 0 < T0.sd3 c a p) : T0.RC (((T0.strip a b c).joi a b p |>.joi b c p).joi c a p) a b c p ∨ ∃ d : Nat, T0.RB (((T0.strip a b c).joi a b p |>.joi b c p).joi c a p) a b c d p := by
  obtain ⟨hA, hcy, hpo⟩ := id hPM
  obtain ⟨k1, k2⟩ := hcy a b c ha hb hc h1
  obtain ⟨sa, sb, sc, g4⟩ := hpo a b c ha hb hc h1
  obtain ⟨n1, n2, n3⟩ := St.pos_ne g4
  obtain ⟨o1, o2, o3⟩ := hnp
  have Eab : T0.E a b := by unfold St.E; omega
  have Ebc : T0.E b c := by unfold St.E; omega
  have Eca : T0.E c a := by unfold St.E; omega
  have w1 := T0.sd3_swap a b c
  have w2 : T0.sd3 c b a = -T0.sd3 a b c := by unfold St.sd3 St.sd; grind
  have w3 : T0.sd3 a c b = -T0.sd3 a b c := by unfold St.sd3 St.sd; grind
  have s0 := St.Stp_strip hPM hq ha hb hc h1
  generalize T0.strip a b c = T1 at *
  have f1_ab : ¬ T1.E a b := fun z => ((s0.E ha hb).mp z).elim (fun q => q.2 (Or.inl ⟨rfl, rfl⟩)) (fun q => q)
  have f1_bc : ¬ T1.E b c := fun z => ((s0.E hb hc).mp z).elim (fun q => q.2 (Or.inr (Or.inl ⟨rfl, rfl⟩))) (fun q => q)
  have f1_ca : ¬ T1.E c a := fun z => ((s0.E hc ha).mp z).elim (fun q => q.2 (Or.inr (Or.inr ⟨rfl, rfl⟩))) (fun q => q)
  have f1_p : ∀ v : Nat, v < 40 → ¬ T1.E p v ∧ ¬ T1.E v p := fun v hv => ⟨fun z => ((s0.E hp hv).mp z).elim (fun q => (hpe v hv).1 q.1) (fun q => q), fun z => ((s0.E hv hp).mp z).elim (fun q => (hpe v hv).2 q.1) (fun q => q)⟩
  have f1_ap := (f1_p a ha).2
  have f1_pa := (f1_p a ha).1
  have f1_bp := (f1_p b hb).2
  have f1_pb := (f1_p b hb).1
  have f1_cp := (f1_p c hc).2
  have f1_pc := (f1_p c hc).1
  have dd : ∀ d : Nat, d < 40 → 0 < T0.sd3 b a d → d ≠ a ∧ d ≠ b ∧ d ≠ c ∧ ¬ T1.E d p ∧ ¬ T1.E p d := by
    intro d hd4 hd0
    have da : d ≠ a := fun z => by rw [z, St.sd3_self2] at hd0; omega
    have db : d ≠ b := fun z => by rw [z, St.sd3_self3] at hd0; omega
    have dc : d ≠ c := fun z => by rw [z] at hd0; omega
    exact ⟨da, db, dc, (f1_p d hd4).2, (f1_p d hd4).1⟩
  have j0 := St.Stp_joi s0.1 s0.2.2.2.2.1 ha hb hp ((s0.had a).mpr sa) ((s0.had b).mpr sb) ((s0.had p).mpr sp) ⟨n1, o2, fun z => o1 z.symm⟩ f1_ab f1_bp f1_pa (Or.inr ⟨(St.btw_eq s0.2.1 s0.2.2.1 (St.btw_of (c := c) (by exact g4) z1 z2 z3)), fun d hd4 hd0 _ _ => by rw [s0.sd] at hd0; exact (dd d hd4 hd0).2.2.2⟩)
  generalize T1.joi a b p = T2 at *
  rcases j0 with ⟨y, -⟩ | ⟨-, y1, t0⟩ | ⟨-, d, hd4, y1, y2, sd, Eud, Edv, du, dv, dp, t0⟩
  · exfalso; rw [s0.sd] at y; omega
  · left
    have c1 := s0.comp t0
    have y3 : ¬ T0.E b a := fun z => by
      have e0 := (s0.E hb ha).mpr (Or.inl ⟨z, by simp [e3, n1, n2, n3, n1.symm, n2.symm, n3.symm, o1, o2, o3, o1.symm, o2.symm, o3.symm]⟩)
      exact e0 y1
    have f2_bc : ¬ T2.E b c := fun z => ((t0.E hb hc).mp z).elim (fun q => f1_bc q.1) (fun q => by simp [e3, eU, no2, n1, n2, n3, n1.symm, n2.symm, n3.symm, o1, o2, o3, o1.symm, o2.symm, o3.symm] at q)
    have f2_cp : ¬ T2.E c p := fun z => ((t0.E hc hp).mp z).elim (fun q => f1_cp q.1) (fun q => by simp [e3, eU, no2, n1, n2, n3, n1.symm, n2.symm, n3.symm, o1, o2, o3, o1.symm, o2.symm, o3.symm] at q)
    have f2_pb : ¬ T2.E p b := fun z => ((t0.E hp hb).mp z).elim (fun q => f1_pb q.1) (fun q => by simp [e3, eU, no2, n1, n2, n3, n1.symm, n2.symm, n3.symm, o1, o2, o3, o1.symm, o2.symm, o3.symm] at q)
    have f2_ca : ¬ T2.E c a := fun z => ((t0.E hc ha).mp z).elim (fun q => f1_ca q.1) (fun q => by simp [e3, eU, no2, n1, n2, n3, n1.symm, n2.symm, n3.symm, o1, o2, o3, o1.symm, o2.symm, o3.symm] at q)
    have f2_ap : ¬ T2.E a p := fun z => ((t0.E ha hp).mp z).elim (fun q => f1_ap q.1) (fun q => by simp [e3, eU, no2, n1, n2, n3, n1.symm, n2.symm, n3.symm, o1, o2, o3, o1.symm, o2.symm, o3.symm] at q)
    have f2_pc : ¬ T2.E p c := fun z => ((t0.E hp hc).mp z).elim (fun q => f1_pc q.1) (fun q => by simp [e3, eU, no2, n1, n2, n3, n1.symm, n2.symm, n3.symm, o1, o2, o3, o1.symm, o2.symm, o3.symm] at q)
    have j1 := St.Stp_joi c1.1 c1.2.2.2.2.1 hb hc hp ((c1.had b).mpr sb) ((c1.had c).mpr sc) ((c1.had p).mpr sp) ⟨n2, o3, fun z => o2 z.symm⟩ f2_bc f2_cp f2_pb (Or.inl (by rw [c1.sd]; exact z2))
    generalize T2.joi b c p = T3 at *
    have t1 := (j1.resolve_right (fun y => y.elim (fun y => by have := y.1.1; rw [c1.sd] at this; omega) (fun y => by have := y.1.1; rw [c1.sd] at this; omega))).2
    have c2 := c1.comp t1
    have f3_ca : ¬ T3.E c a := fun z => ((t1.E hc ha).mp z).elim (fun q => f2_ca q.1) (fun q => by simp [e3, eU, no2, n1, n2, n3, n1.symm, n2.symm, n3.symm, o1, o2, o3, o1.symm, o2.symm, o3.symm] at q)
    have f3_ap : ¬ T3.E a p := fun z => ((t1.E ha hp).mp z).elim (fun q => f2_ap q.1) (fun q => by simp [e3, eU, no2, n1, n2, n3, n1.symm, n2.symm, n3.symm, o1, o2, o3, o1.symm, o2.symm, o3.symm] at q)
    have f3_pc : ¬ T3.E p c := fun z => ((t1.E hp hc).mp z).elim (fun q => f2_pc q.1) (fun q => by simp [e3, eU, no2, n1, n2, n3, n1.symm, n2.symm, n3.symm, o1, o2, o3, o1.symm, o2.symm, o3.symm] at q)
    have j2 := St.Stp_joi c2.1 c2.2.2.2.2.1 hc ha hp ((c2.had c).mpr sc) ((c2.had a).mpr sa) ((c2.had p).mpr sp) ⟨n3, o1, fun z => o3 z.symm⟩ f3_ca f3_ap f3_pc (Or.inl (by rw [c2.sd]; exact z3))
    generalize T3.joi c a p = T4 at *
    have t2 := (j2.resolve_right (fun y => y.elim (fun y => by have := y.1.1; rw [c2.sd] at this; omega) (fun y => by have := y.1.1; rw [c2.sd] at this; omega))).2
    have c3 := c2.comp t2
    have hbq : T1.bound a b ↔ T0.bound a b := by rw [s0.bd ha hb]; simp [no2]
    refine ⟨⟨z1, z2, z3, y3⟩, ?_⟩
    refine c3.conv (fun g hg => ?_) (by omega) (fun x y hx hy => t1C (d := 0) n1 n2 n3 o1 o2 o3 (by rintro (⟨r1, r2⟩ | ⟨r1, r2⟩ | ⟨r1, r2⟩) <;> rw [r1, r2] <;> assumption) (by rintro r ⟨r1, r2⟩; rw [r1, r2] at r; exact y3 r)) (fun x y hx hy => ?_)
    · have a1 := hg a p
      have a2 := hg b p
      have a3 := hg c p
      try dsimp only
      omega
    · simp only [no2, hbq, or_false, false_or, false_and, not_false_eq_true, and_true]
  · right
    refine ⟨d, ?_⟩
    have c1 := s0.comp t0
    rw [s0.sd] at y2
    obtain ⟨da, db, dc, -, -⟩ := dd d hd4 y2
    have Evu0 : T0.E b a := ((s0.E hb ha).mp (show T1.E b a by unfold St.E; omega)).elim (fun q => q.1) (fun q => q.elim)
    have Eud0 : T0.E a d := ((s0.E ha hd4).mp Eud).elim (fun q => q.1) (fun q => q.elim)
    have Edv0 : T0.E d b := ((s0.E hd4 hb).mp Edv).elim (fun q => q.1) (fun q => q.elim)
    have sd0 := (s0.had d).mp sd
    have f2_bc : ¬ T2.E b c := fun z => ((t0.E hb hc).mp z).elim (fun q => f1_bc q.1) (fun q => by simp [e3, eU, no2, n1, n2, n3, n1.symm, n2.symm, n3.symm, o1, o2, o3, o1.symm, o2.symm, o3.symm, da, db, dc, dp, da.symm, db.symm, dc.symm, dp.symm] at q)
    have f2_cp : ¬ T2.E c p := fun z => ((t0.E hc hp).mp z).elim (fun q => f1_cp q.1) (fun q => by simp [e3, eU, no2, n1, n2, n3, n1.symm, n2.symm, n3.symm, o1, o2, o3, o1.symm, o2.symm, o3.symm, da, db, dc, dp, da.symm, db.symm, dc.symm, dp.symm] at q)
    have f2_pb : ¬ T2.E p b := fun z => ((t0.E hp hb).mp z).elim (fun q => f1_pb q.1) (fun q => by simp [e3, eU, no2, n1, n2, n3, n1.symm, n2.symm, n3.symm, o1, o2, o3, o1.symm, o2.symm, o3.symm, da, db, dc, dp, da.symm, db.symm, dc.symm, dp.symm] at q)
    have f2_ca : ¬ T2.E c a := fun z => ((t0.E hc ha).mp z).elim (fun q => f1_ca q.1) (fun q => by simp [e3, eU, no2, n1, n2, n3, n1.symm, n2.symm, n3.symm, o1, o2, o3, o1.symm, o2.symm, o3.symm, da, db, dc, dp, da.symm, db.symm, dc.symm, dp.symm] at q)
    have f2_ap : ¬ T2.E a p := fun z => ((t0.E ha hp).mp z).elim (fun q => f1_ap q.1) (fun q => by simp [e3, eU, no2, n1, n2, n3, n1.symm, n2.symm, n3.symm, o1, o2, o3, o1.symm, o2.symm, o3.symm, da, db, dc, dp, da.symm, db.symm, dc.symm, dp.symm] at q)
    have f2_pc : ¬ T2.E p c := fun z => ((t0.E hp hc).mp z).elim (fun q => f1_pc q.1) (fun q => by simp [e3, eU, no2, n1, n2, n3, n1.symm, n2.symm, n3.symm, o1, o2, o3, o1.symm, o2.symm, o3.symm, da, db, dc, dp, da.symm, db.symm, dc.symm, dp.symm] at q)
    have j1 := St.Stp_joi c1.1 c1.2.2.2.2.1 hb hc hp ((c1.had b).mpr sb) ((c1.had c).mpr sc) ((c1.had p).mpr sp) ⟨n2, o3, fun z => o2 z.symm⟩ f2_bc f2_cp f2_pb (Or.inl (by rw [c1.sd]; exact z2))
    generalize T2.joi b c p = T3 at *
    have t1 := (j1.resolve_right (fun y => y.elim (fun y => by have := y.1.1; rw [c1.sd] at this; omega) (fun y => by have := y.1.1; rw [c1.sd] at this; omega))).2
    have c2 := c1.comp t1
    have f3_ca : ¬ T3.E c a := fun z => ((t1.E hc ha).mp z).elim (fun q => f2_ca q.1) (fun q => by simp [e3, eU, no2, n1, n2, n3, n1.symm, n2.symm, n3.symm, o1, o2, o3, o1.symm, o2.symm, o3.symm, da, db, dc, dp, da.symm, db.symm, dc.symm, dp.symm] at q)
    have f3_ap : ¬ T3.E a p := fun z => ((t1.E ha hp).mp z).elim (fun q => f2_ap q.1) (fun q => by simp [e3, eU, no2, n1, n2, n3, n1.symm, n2.symm, n3.symm, o1, o2, o3, o1.symm, o2.symm, o3.symm, da, db, dc, dp, da.symm, db.symm, dc.symm, dp.symm] at q)
    have f3_pc : ¬ T3.E p c := fun z => ((t1.E hp hc).mp z).elim (fun q => f2_pc q.1) (fun q => by simp [e3, eU, no2, n1, n2, n3, n1.symm, n2.symm, n3.symm, o1, o2, o3, o1.symm, o2.symm, o3.symm, da, db, dc, dp, da.symm, db.symm, dc.symm, dp.symm] at q)
    have j2 := St.Stp_joi c2.1 c2.2.2.2.2.1 hc ha hp ((c2.had c).mpr sc) ((c2.had a).mpr sa) ((c2.had p).mpr sp) ⟨n3, o1, fun z => o3 z.symm⟩ f3_ca f3_ap f3_pc (Or.inl (by rw [c2.sd]; exact z3))
    generalize T3.joi c a p = T4 at *
    have t2 := (j2.resolve_right (fun y => y.elim (fun y => by have := y.1.1; rw [c2.sd] at this; omega) (fun y => by have := y.1.1; rw [c2.sd] at this; omega))).2
    have c3 := c2.comp t2
    have hbq : T1.bound a b ↔ T0.bound a b := by rw [s0.bd ha hb]; simp [no2]
    refine ⟨⟨z1, z2, z3, hd4, Evu0, sd0, du, dv, dc, dp⟩, ?_⟩
    refine c3.conv (fun g hg => ?_) (by omega) (fun x y hx hy => t1B n1 n2 n3 o1 o2 o3 (by rintro (⟨r1, r2⟩ | ⟨r1, r2⟩ | ⟨r1, r2⟩) <;> rw [r1, r2] <;> assumption) (by rintro (⟨r1, r2⟩ | ⟨r1, r2⟩ | ⟨r1, r2⟩) <;> rw [r1, r2] <;> assumption) da db dc dp) (fun x y hx hy => ?_)
    · have a1 := hg a p
      have a2 := hg b p
      have a3 := hg c p
      have a4 := hg d p
      try dsimp only
      omega
    · simp only [no2, hbq, or_false, false_or, false_and, not_false_eq_true, and_true]
