/-! A POINT PUT IN: rows laid by wip/p63/mk53.py -/
theorem St.put_N {T0 : St} (hPM : T0.PM) (hq : T0.wq) (hd : T0.dist) {a b c p : Nat} (ha : a < 40) (hb : b < 40) (hc : c < 40) (hp : p < 40) (sp : T0.has p) (hpe : ∀ v : Nat, v < 40 → ¬ T0.E p v ∧ ¬ T0.E v p) (h1 : T0.ap (a * 40 + b) = (c : Int)) (hnp : a ≠ p ∧ b ≠ p ∧ c ≠ p) (z1 : 0 < T0.sd3 a b p) (z2 : 0 < T0.sd3 b c p) (z3 : 0 < T0.sd3 c a p) : T0.RN (((T0.strip a b c).joi a b p |>.joi b c p).joi c a p) a b c p := by
  obtain ⟨hA, hcy, hpo⟩ := id hPM
  obtain ⟨k1, k2⟩ := hcy a b c ha hb hc h1
  obtain ⟨sa, sb, sc, g4⟩ := hpo a b c ha hb hc h1
  obtain ⟨n1, n2, n3⟩ := St.pos_ne g4
  obtain ⟨o1, o2, o3⟩ := hnp
  have Eab : T0.E a b := by unfold St.E; omega
  have Ebc : T0.E b c := by unfold St.E; omega
  have Eca : T0.E c a := by unfold St.E; omega
  have w1 := T0.sd3_swap a b c
  have w2 : T0.sd3 c b a = -T0.sd3 a b c := by unfold St.sd3 St.sd; grind
  have w3 : T0.sd3 a c b = -T0.sd3 a b c := by unfold St.sd3 St.sd; grind
  have s0 := St.Stp_strip hPM hq ha hb hc h1
  generalize T0.strip a b c = T1 at *
  have f1_ab : ¬ T1.E a b := fun z => ((s0.E ha hb).mp z).elim (fun q => q.2 (Or.inl ⟨rfl, rfl⟩)) (fun q => q)
  have f1_bc : ¬ T1.E b c := fun z => ((s0.E hb hc).mp z).elim (fun q => q.2 (Or.inr (Or.inl ⟨rfl, rfl⟩))) (fun q => q)
  have f1_ca : ¬ T1.E c a := fun z => ((s0.E hc ha).mp z).elim (fun q => q.2 (Or.inr (Or.inr ⟨rfl, rfl⟩))) (fun q => q)
  have f1_p : ∀ v : Nat, v < 40 → ¬ T1.E p v ∧ ¬ T1.E v p := fun v hv => ⟨fun z => ((s0.E hp hv).mp z).elim (fun q => (hpe v hv).1 q.1) (fun q => q), fun z => ((s0.E hv hp).mp z).elim (fun q => (hpe v hv).2 q.1) (fun q => q)⟩
  have f1_ap := (f1_p a ha).2
  have f1_pa := (f1_p a ha).1
  have f1_bp := (f1_p b hb).2
  have f1_pb := (f1_p b hb).1
  have f1_cp := (f1_p c hc).2
  have f1_pc := (f1_p c hc).1
  have j0 := St.Stp_joi s0.1 s0.2.2.2.2.1 ha hb hp ((s0.had a).mpr sa) ((s0.had b).mpr sb) ((s0.had p).mpr sp) ⟨n1, o2, fun z => o1 z.symm⟩ f1_ab f1_bp f1_pa (Or.inl (by rw [s0.sd]; exact z1))
  generalize T1.joi a b p = T2 at *
  have t0 := (j0.resolve_right (fun y => y.elim (fun y => by have := y.1.1; rw [s0.sd] at this; omega) (fun y => by have := y.1.1; rw [s0.sd] at this; omega))).2
  have c1 := s0.comp t0
  have f2_bc : ¬ T2.E b c := fun z => ((t0.E hb hc).mp z).elim (fun q => f1_bc q.1) (fun q => by simp [e3, eU, no2, n1, n2, n3, n1.symm, n2.symm, n3.symm, o1, o2, o3, o1.symm, o2.symm, o3.symm] at q)
  have f2_cp : ¬ T2.E c p := fun z => ((t0.E hc hp).mp z).elim (fun q => f1_cp q.1) (fun q => by simp [e3, eU, no2, n1, n2, n3, n1.symm, n2.symm, n3.symm, o1, o2, o3, o1.symm, o2.symm, o3.symm] at q)
  have f2_pb : ¬ T2.E p b := fun z => ((t0.E hp hb).mp z).elim (fun q => f1_pb q.1) (fun q => by simp [e3, eU, no2, n1, n2, n3, n1.symm, n2.symm, n3.symm, o1, o2, o3, o1.symm, o2.symm, o3.symm] at q)
  have f2_ca : ¬ T2.E c a := fun z => ((t0.E hc ha).mp z).elim (fun q => f1_ca q.1) (fun q => by simp [e3, eU, no2, n1, n2, n3, n1.symm, n2.symm, n3.symm, o1, o2, o3, o1.symm, o2.symm, o3.symm] at q)
  have f2_ap : ¬ T2.E a p := fun z => ((t0.E ha hp).mp z).elim (fun q => f1_ap q.1) (fun q => by simp [e3, eU, no2, n1, n2, n3, n1.symm, n2.symm, n3.symm, o1, o2, o3, o1.symm, o2.symm, o3.symm] at q)
  have f2_pc : ¬ T2.E p c := fun z => ((t0.E hp hc).mp z).elim (fun q => f1_pc q.1) (fun q => by simp [e3, eU, no2, n1, n2, n3, n1.symm, n2.symm, n3.symm, o1, o2, o3, o1.symm, o2.symm, o3.symm] at q)
  have j1 := St.Stp_joi c1.1 c1.2.2.2.2.1 hb hc hp ((c1.had b).mpr sb) ((c1.had c).mpr sc) ((c1.had p).mpr sp) ⟨n2, o3, fun z => o2 z.symm⟩ f2_bc f2_cp f2_pb (Or.inl (by rw [c1.sd]; exact z2))
  generalize T2.joi b c p = T3 at *
  have t1 := (j1.resolve_right (fun y => y.elim (fun y => by have := y.1.1; rw [c1.sd] at this; omega) (fun y => by have := y.1.1; rw [c1.sd] at this; omega))).2
  have c2 := c1.comp t1
  have f3_ca : ¬ T3.E c a := fun z => ((t1.E hc ha).mp z).elim (fun q => f2_ca q.1) (fun q => by simp [e3, eU, no2, n1, n2, n3, n1.symm, n2.symm, n3.symm, o1, o2, o3, o1.symm, o2.symm, o3.symm] at q)
  have f3_ap : ¬ T3.E a p := fun z => ((t1.E ha hp).mp z).elim (fun q => f2_ap q.1) (fun q => by simp [e3, eU, no2, n1, n2, n3, n1.symm, n2.symm, n3.symm, o1, o2, o3, o1.symm, o2.symm, o3.symm] at q)
  have f3_pc : ¬ T3.E p c := fun z => ((t1.E hp hc).mp z).elim (fun q => f2_pc q.1) (fun q => by simp [e3, eU, no2, n1, n2, n3, n1.symm, n2.symm, n3.symm, o1, o2, o3, o1.symm, o2.symm, o3.symm] at q)
  have j2 := St.Stp_joi c2.1 c2.2.2.2.2.1 hc ha hp ((c2.had c).mpr sc) ((c2.had a).mpr sa) ((c2.had p).mpr sp) ⟨n3, o1, fun z => o3 z.symm⟩ f3_ca f3_ap f3_pc (Or.inl (by rw [c2.sd]; exact z3))
  generalize T3.joi c a p = T4 at *
  have t2 := (j2.resolve_right (fun y => y.elim (fun y => by have := y.1.1; rw [c2.sd] at this; omega) (fun y => by have := y.1.1; rw [c2.sd] at this; omega))).2
  have c3 := c2.comp t2
  refine c3.conv (fun g hg => ?_) (by omega) (fun x y hx hy => tN (d := 0) n1 n2 n3 o1 o2 o3 (by rintro (⟨r1, r2⟩ | ⟨r1, r2⟩ | ⟨r1, r2⟩) <;> rw [r1, r2] <;> assumption)) (fun x y hx hy => by simp [no2])
  · have a1 := hg a p
    have a2 := hg b p
    have a3 := hg c p
    try dsimp only
    omega
