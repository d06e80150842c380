/-! A STATE AND A SHEET THAT SAY THE SAME: what keeps it. By hand. -/
abbrev os2 (x1 y1 x2 y2 : Int) : Prop := (y1 = -1000 ∧ y2 = -1000 ∧ x1 < x2) ∨ (x1 = 1000 ∧ x2 = 1000 ∧ y1 < y2) ∨ (y1 = 1000 ∧ y2 = 1000 ∧ x2 < x1) ∨ (x1 = -1000 ∧ x2 = -1000 ∧ y2 < y1)
theorem btw_all {x1 y1 x2 y2 x y : Int} (h : btw2 x1 y1 x2 y2 x y) : (x2 - x1) * (y - y1) - (y2 - y1) * (x - x1) = 0 ∧ ((x1 ≤ x ∧ x ≤ x2) ∨ (x2 ≤ x ∧ x ≤ x1)) ∧ ((y1 ≤ y ∧ y ≤ y2) ∨ (y2 ≤ y ∧ y ≤ y1)) ∧ (x ≠ x1 ∨ y ≠ y1) ∧ (x ≠ x2 ∨ y ≠ y2) := by
  obtain ⟨h1, ⟨h2, h3, h4, h5⟩, h6, h7⟩ := h
  unfold zmin at h2 h4
  unfold zmax at h3 h5
  refine ⟨h1, ?_, ?_, h6, h7⟩
  · split at h2 <;> split at h3 <;> omega
  · split at h4 <;> split at h5 <;> omega
theorem btw_sym {x1 y1 x2 y2 x y : Int} (h : btw2 x1 y1 x2 y2 x y) : btw2 x2 y2 x1 y1 x y := by
  rw [btw_iff] at h ⊢
  unfold sd2 at *
  exact ⟨by grind, by grind⟩
abbrev ss2 (x1 y1 x2 y2 : Int) : Prop := (y1 = -1000 ∧ y2 = -1000) ∨ (x1 = 1000 ∧ x2 = 1000) ∨ (y1 = 1000 ∧ y2 = 1000) ∨ (x1 = -1000 ∧ x2 = -1000)
theorem os_or {x1 y1 x2 y2 : Int} (hne : x1 ≠ x2 ∨ y1 ≠ y2) : (os2 x1 y1 x2 y2 ∨ os2 x2 y2 x1 y1) ↔ ss2 x1 y1 x2 y2 := by
  constructor
  · rintro ((⟨a, b, -⟩ | ⟨a, b, -⟩ | ⟨a, b, -⟩ | ⟨a, b, -⟩) | (⟨a, b, -⟩ | ⟨a, b, -⟩ | ⟨a, b, -⟩ | ⟨a, b, -⟩))
    · exact Or.inl ⟨a, b⟩
    · exact Or.inr (Or.inl ⟨a, b⟩)
    · exact Or.inr (Or.inr (Or.inl ⟨a, b⟩))
    · exact Or.inr (Or.inr (Or.inr ⟨a, b⟩))
    · exact Or.inl ⟨b, a⟩
    · exact Or.inr (Or.inl ⟨b, a⟩)
    · exact Or.inr (Or.inr (Or.inl ⟨b, a⟩))
    · exact Or.inr (Or.inr (Or.inr ⟨b, a⟩))
  · rintro (⟨a, b⟩ | ⟨a, b⟩ | ⟨a, b⟩ | ⟨a, b⟩)
    · rcases Int.lt_trichotomy x1 x2 with c | c | c
      · exact Or.inl (Or.inl ⟨a, b, c⟩)
      · omega
      · exact Or.inr (Or.inl ⟨b, a, c⟩)
    · rcases Int.lt_trichotomy y1 y2 with c | c | c
      · exact Or.inl (Or.inr (Or.inl ⟨a, b, c⟩))
      · omega
      · exact Or.inr (Or.inr (Or.inl ⟨b, a, c⟩))
    · rcases Int.lt_trichotomy x1 x2 with c | c | c
      · exact Or.inr (Or.inr (Or.inr (Or.inl ⟨b, a, c⟩)))
      · omega
      · exact Or.inl (Or.inr (Or.inr (Or.inl ⟨a, b, c⟩)))
    · rcases Int.lt_trichotomy y1 y2 with c | c | c
      · exact Or.inr (Or.inr (Or.inr (Or.inr ⟨b, a, c⟩)))
      · omega
      · exact Or.inl (Or.inr (Or.inr (Or.inr ⟨a, b, c⟩)))
theorem os_split {x1 y1 x2 y2 x y : Int} (h : btw2 x1 y1 x2 y2 x y) : (os2 x1 y1 x2 y2 ∨ os2 x2 y2 x1 y1) ↔ (os2 x2 y2 x y ∨ os2 x y x2 y2) := by
  obtain ⟨h1, h2, h3, h4, h5⟩ := btw_all h
  have ky : y = y2 → y1 = y2 ∨ x = x2 := fun e => by
    rw [e] at h1
    rcases Int.mul_eq_zero.mp (show (y2 - y1) * (x2 - x) = 0 by grind) with c | c
    · exact Or.inl (by omega)
    · exact Or.inr (by omega)
  have kx : x = x2 → x1 = x2 ∨ y = y2 := fun e => by
    rw [e] at h1
    rcases Int.mul_eq_zero.mp (show (x2 - x1) * (y - y2) = 0 by grind) with c | c
    · exact Or.inl (by omega)
    · exact Or.inr (by omega)
  clear h1
  have hne : x1 ≠ x2 ∨ y1 ≠ y2 := by omega
  rw [os_or hne, os_or (by omega)]
  constructor
  · rintro (⟨a, b⟩ | ⟨a, b⟩ | ⟨a, b⟩ | ⟨a, b⟩)
    · exact Or.inl ⟨b, by omega⟩
    · exact Or.inr (Or.inl ⟨b, by omega⟩)
    · exact Or.inr (Or.inr (Or.inl ⟨b, by omega⟩))
    · exact Or.inr (Or.inr (Or.inr ⟨b, by omega⟩))
  · rintro (⟨a, b⟩ | ⟨a, b⟩ | ⟨a, b⟩ | ⟨a, b⟩)
    · have := ky (by omega); exact Or.inl ⟨by omega, a⟩
    · have := kx (by omega); exact Or.inr (Or.inl ⟨by omega, a⟩)
    · have := ky (by omega); exact Or.inr (Or.inr (Or.inl ⟨by omega, a⟩))
    · have := kx (by omega); exact Or.inr (Or.inr (Or.inr ⟨by omega, a⟩))
theorem St.onside_os (S : St) (a b : Nat) : S.onside a b ↔ os2 (S.xs a) (S.ys a) (S.xs b) (S.ys b) := Iff.rfl
theorem St.bt2_btw {S : St} {a b : Nat} {x y : Int} : S.bt2 a b x y ↔ btw2 (S.xs a) (S.ys a) (S.xs b) (S.ys b) x y := btw_iff.symm
theorem Sh.uP_at (X : Sh) (p : Nat) (t : Option (Int × Int × Int)) : (X.uP p t).1 p = t := if_pos rfl
theorem Sh.uP_ne (X : Sh) {p k : Nat} (t : Option (Int × Int × Int)) (h : k ≠ p) : (X.uP p t).1 k = X.1 k := if_neg h
theorem Sh.c_ne (X : Sh) {p k : Nat} (t : Option (Int × Int × Int)) (h : k ≠ p) : (X.uP p t).cx k = X.cx k ∧ (X.uP p t).cy k = X.cy k ∧ (X.uP p t).cz k = X.cz k := by
  unfold Sh.cx Sh.cy Sh.cz
  rw [Sh.uP_ne X t h]
  exact ⟨rfl, rfl, rfl⟩
theorem Sh.c_at (X : Sh) (p : Nat) (x y z : Int) : (X.uP p (some (x, y, z))).cx p = x ∧ (X.uP p (some (x, y, z))).cy p = y ∧ (X.uP p (some (x, y, z))).cz p = z := Sh.c_of (Sh.uP_at X p _)
/-- where nothing is fixed but what the state has bound, and the places are the state's -/
theorem Rel.act {S : St} {X : Sh} (h : Rel S X) (hM : S.Msh) {p : Nat} {x y z : Int} (hnp : ¬ S.has p) {i j : Nat} (hi : i < 40) (hj : j < 40) : (X.uP p (some (x, y, z))).act x y i j ↔ S.bound i j ∧ S.bt2 i j x y := by
  show X.2.1 i j ≠ 0 ∧ _ ↔ _
  rw [h.2.2.1 i j hi hj]
  constructor
  · rintro ⟨h1, h2⟩
    have hb : S.bound i j := Classical.byContradiction (fun q => h1 (St.how_0.mpr q))
    obtain ⟨-, si, sj, -⟩ := hM.2.1.1 i j hi hj hb
    have ni : i ≠ p := fun e => hnp (e ▸ si)
    have nj : j ≠ p := fun e => hnp (e ▸ sj)
    obtain ⟨a1, a2, -⟩ := h.2.1 i hi si
    obtain ⟨b1, b2, -⟩ := h.2.1 j hj sj
    rw [(Sh.c_ne X _ ni).1, (Sh.c_ne X _ ni).2.1, (Sh.c_ne X _ nj).1, (Sh.c_ne X _ nj).2.1, a1, a2, b1, b2] at h2
    exact ⟨hb, St.bt2_btw.mpr h2⟩
  · rintro ⟨hb, h2⟩
    obtain ⟨-, si, sj, -⟩ := hM.2.1.1 i j hi hj hb
    have ni : i ≠ p := fun e => hnp (e ▸ si)
    have nj : j ≠ p := fun e => hnp (e ▸ sj)
    obtain ⟨a1, a2, -⟩ := h.2.1 i hi si
    obtain ⟨b1, b2, -⟩ := h.2.1 j hj sj
    refine ⟨fun e => St.how_0.mp e hb, ?_⟩
    rw [(Sh.c_ne X _ ni).1, (Sh.c_ne X _ ni).2.1, (Sh.c_ne X _ nj).1, (Sh.c_ne X _ nj).2.1, a1, a2, b1, b2]
    exact St.bt2_btw.mp h2
/-- how is what it is by what is bound and where -/
theorem St.how_eq {S T : St} {u v : Nat} (hb : T.bound u v ↔ S.bound u v) (ho : S.bound u v → ((T.onside u v ∨ T.onside v u) ↔ (S.onside u v ∨ S.onside v u))) : T.how u v = S.how u v := by
  by_cases c : S.bound u v
  · by_cases d : S.onside u v ∨ S.onside v u
    · rw [St.how_2.mpr ⟨c, d⟩]
      exact St.how_2.mpr ⟨hb.mpr c, (ho c).mpr d⟩
    · rw [St.how_1.mpr ⟨c, d⟩]
      exact St.how_1.mpr ⟨hb.mpr c, fun z => d ((ho c).mp z)⟩
  · rw [St.how_0.mpr c]
    exact St.how_0.mpr (fun z => c (hb.mp z))
theorem St.how_of {S T : St} {u v u' v' : Nat} (hb : T.bound u v) (hb' : S.bound u' v') (ho : (S.onside u' v' ∨ S.onside v' u') ↔ (T.onside u v ∨ T.onside v u)) : T.how u v = S.how u' v' := by
  by_cases d : S.onside u' v' ∨ S.onside v' u'
  · rw [St.how_2.mpr ⟨hb', d⟩]
    exact St.how_2.mpr ⟨hb, ho.mp d⟩
  · rw [St.how_1.mpr ⟨hb', d⟩]
    exact St.how_1.mpr ⟨hb, fun z => d (ho.mpr z)⟩
theorem Rel.lays {S T : St} {X : Sh} (h : Rel S X) (hM : S.Msh) {p : Nat} {x y z : Int} (hp : p < 40) (hnp : ¬ S.has p) (hT : S.laid T p x y) (hz : T.hs p = z) (hz2 : ∀ j : Nat, j ≠ p → T.hs j = S.hs j) (hn : T.hn = S.hn) (hg : T.g = S.g) : Rel T (X.lays p x y z) := by
  obtain ⟨tx, ty, tt, tb⟩ := hT
  have tp : T.has p := by unfold St.has; rw [tt, bt_set (by omega)]; simp
  have toth : ∀ k : Nat, k ≠ p → (T.has k ↔ S.has k) := fun k hk => by unfold St.has; rw [tt, bt_set (by omega), decide_eq_false hk, Bool.or_false]
  have nep : ∀ u : Nat, S.has u → u ≠ p := fun u a e => hnp (e ▸ a)
  have px : T.xs p = x := by rw [tx, uZ_at]
  have py : T.ys p = y := by rw [ty, uZ_at]
  have qx : ∀ k : Nat, k ≠ p → T.xs k = S.xs k ∧ T.ys k = S.ys k := fun k hk => by rw [tx, ty, uZ_ne hk, uZ_ne hk]; exact ⟨rfl, rfl⟩
  have Fx := hM.2.1
  have oeq : ∀ u v : Nat, u ≠ p → v ≠ p → (T.onside u v ↔ S.onside u v) := fun u v hu hv => by
    unfold St.onside
    rw [(qx u hu).1, (qx u hu).2, (qx v hv).1, (qx v hv).2]
  have hact : ∀ i j : Nat, i < 40 → j < 40 → ((X.uP p (some (x, y, z))).act x y i j ↔ S.bound i j ∧ S.bt2 i j x y) := fun i j hi hj => h.act hM hnp hi hj
  -- points, holes and G are what they are, whatever is fixed
  have finish : ∀ F : Sh, F.1 = (X.uP p (some (x, y, z))).1 → F.2.2 = X.2.2 → (∀ u v : Nat, u < 40 → v < 40 → F.2.1 u v = T.how u v) → Rel T F := by
    intro F e1 e2 e3
    have ec : ∀ k : Nat, F.cx k = (X.uP p (some (x, y, z))).cx k ∧ F.cy k = (X.uP p (some (x, y, z))).cy k ∧ F.cz k = (X.uP p (some (x, y, z))).cz k := fun k => by unfold Sh.cx Sh.cy Sh.cz; rw [e1]; exact ⟨rfl, rfl, rfl⟩
    refine ⟨fun k hk => ?_, fun k hk sk => ?_, e3, by rw [e2, hn]; exact h.2.2.2.1, by rw [e2, hg]; exact h.2.2.2.2⟩
    · rw [e1]
      by_cases c : k = p
      · rw [c, Sh.uP_at]
        exact ⟨fun _ => tp, fun _ => rfl⟩
      · rw [Sh.uP_ne X _ c]
        exact (h.1 k hk).trans (toth k c).symm
    · rw [(ec k).1, (ec k).2.1, (ec k).2.2]
      by_cases c : k = p
      · subst c
        obtain ⟨a1, a2, a3⟩ := Sh.c_at X k x y z
        rw [a1, a2, a3, px, py, hz]
        exact ⟨rfl, rfl, rfl⟩
      · obtain ⟨a1, a2, a3⟩ := Sh.c_ne X (some (x, y, z)) c
        rw [a1, a2, a3, (qx k c).1, (qx k c).2, hz2 k c]
        exact h.2.1 k hk ((toth k c).mp sk)
  by_cases hex : ∃ i j : Nat, i < 40 ∧ j < i ∧ S.bound i j ∧ S.bt2 i j x y
  · obtain ⟨i, j, hi, hji, hb, hbt⟩ := hex
    have hj : j < 40 := by omega
    obtain ⟨hbs, si, sj, hE⟩ := Fx.1 i j hi hj hb
    have ni := nep i si
    have nj := nep j sj
    have uniq : ∀ u v : Nat, u < 40 → v < 40 → S.bound u v → S.bt2 u v x y → eU i j u v := fun u v hu hv hb' hbt' => St.one_edge hM.1 hi hj hu hv hE (Fx.1 u v hu hv hb').2.2.2 hbt.1 hbt.2 hbt'.1 hbt'.2
    have hw0 : (X.uP p (some (x, y, z))).2.1 i j = S.how i j := h.2.2.1 i j hi hj
    have hL1 : (X.uP p (some (x, y, z))).lay1 p x y i j = (((X.uP p (some (x, y, z))).fixes i j 0).fixes i p (S.how i j)).fixes j p (S.how i j) := by
      have e9 : (X.uP p (some (x, y, z))).lay1 p x y i j = (((X.uP p (some (x, y, z))).fixes i j 0).fixes i p ((X.uP p (some (x, y, z))).2.1 i j)).fixes j p ((X.uP p (some (x, y, z))).2.1 i j) := if_pos ((hact i j hi hj).mpr ⟨hb, hbt⟩)
      rw [hw0] at e9
      exact e9
    have fxL : ∀ u v : Nat, ((X.uP p (some (x, y, z))).lay1 p x y i j).2.1 u v = if (u = j ∧ v = p) ∨ (u = p ∧ v = j) then S.how i j else if (u = i ∧ v = p) ∨ (u = p ∧ v = i) then S.how i j else if (u = i ∧ v = j) ∨ (u = j ∧ v = i) then 0 else X.2.1 u v := fun u v => by
      rw [hL1, Sh.fixes_at, Sh.fixes_at, Sh.fixes_at]
      rfl
    have e1 := ((X.uP p (some (x, y, z))).lay1_1 p x y i j).1
    have e2 := ((X.uP p (some (x, y, z))).lay1_1 p x y i j).2
    have hfold : X.lays p x y z = (X.uP p (some (x, y, z))).lay1 p x y i j := by
      refine Sh.layI_one hji 40 0 (Nat.zero_le _) (by omega) (fun a b _ ha hba hne hac => ?_) (fun a b _ ha hba hac => ?_)
      · obtain ⟨q1, q2⟩ := (hact a b (by omega) (by omega)).mp hac
        rcases uniq a b (by omega) (by omega) q1 q2 with z9 | z9
        · exact hne z9
        · omega
      · obtain ⟨c1, c2⟩ := hac
        have ecx : ∀ k : Nat, ((X.uP p (some (x, y, z))).lay1 p x y i j).cx k = (X.uP p (some (x, y, z))).cx k ∧ ((X.uP p (some (x, y, z))).lay1 p x y i j).cy k = (X.uP p (some (x, y, z))).cy k := fun k => by unfold Sh.cx Sh.cy; rw [e1]; exact ⟨rfl, rfl⟩
        rw [(ecx a).1, (ecx a).2, (ecx b).1, (ecx b).2] at c2
        rw [fxL] at c1
        obtain ⟨d1, d2, d3, d4, d5⟩ := btw_all c2
        obtain ⟨a1, a2, -⟩ := Sh.c_at X p x y z
        by_cases ca : a = p
        · rw [ca, a1, a2] at d4; omega
        · by_cases cb : b = p
          · rw [cb, a1, a2] at d5; omega
          · rw [if_neg (by omega), if_neg (by omega)] at c1
            by_cases cij : (a = i ∧ b = j) ∨ (a = j ∧ b = i)
            · rw [if_pos cij] at c1; exact c1 rfl
            · rw [if_neg cij] at c1
              obtain ⟨q1, q2⟩ := (hact a b (by omega) (by omega)).mp ⟨c1, c2⟩
              exact cij (uniq a b (by omega) (by omega) q1 q2)
    rw [hfold]
    have btw := St.bt2_btw.mp hbt
    have oj : (S.onside i j ∨ S.onside j i) ↔ (T.onside j p ∨ T.onside p j) := by
      rw [St.onside_os, St.onside_os, St.onside_os, St.onside_os, px, py, (qx j nj).1, (qx j nj).2]
      exact os_split btw
    have oi : (S.onside i j ∨ S.onside j i) ↔ (T.onside i p ∨ T.onside p i) := by
      rw [St.onside_os, St.onside_os, St.onside_os, St.onside_os, px, py, (qx i ni).1, (qx i ni).2]
      exact Or.comm.trans (os_split (btw_sym btw))
    refine finish _ e1 (e2.trans rfl) (fun u v hu hv => ?_)
    rw [fxL]
    by_cases c1 : (u = j ∧ v = p) ∨ (u = p ∧ v = j)
    · rw [if_pos c1]
      rcases c1 with ⟨rfl, rfl⟩ | ⟨rfl, rfl⟩
      · exact (St.how_of ((tb u v hu hv).mpr (Or.inr (Or.inr ⟨rfl, i, hi, hbs, St.bt2_sym hbt⟩))) hb oj).symm
      · exact (St.how_of ((tb u v hu hv).mpr (Or.inr (Or.inl ⟨rfl, i, hi, hbs, St.bt2_sym hbt⟩))) hb (oj.trans Or.comm)).symm
    · rw [if_neg c1]
      by_cases c2 : (u = i ∧ v = p) ∨ (u = p ∧ v = i)
      · rw [if_pos c2]
        rcases c2 with ⟨rfl, rfl⟩ | ⟨rfl, rfl⟩
        · exact (St.how_of ((tb u v hu hv).mpr (Or.inr (Or.inr ⟨rfl, j, hj, hb, hbt⟩))) hb oi).symm
        · exact (St.how_of ((tb u v hu hv).mpr (Or.inr (Or.inl ⟨rfl, j, hj, hb, hbt⟩))) hb (oi.trans Or.comm)).symm
      · rw [if_neg c2]
        by_cases c3 : (u = i ∧ v = j) ∨ (u = j ∧ v = i)
        · rw [if_pos c3]
          symm
          rw [St.how_0]
          intro hbT
          rcases (tb u v hu hv).mp hbT with ⟨q1, q2⟩ | ⟨q1, -⟩ | ⟨q1, -⟩
          · apply q2
            rcases c3 with ⟨rfl, rfl⟩ | ⟨rfl, rfl⟩
            · exact hbt
            · exact St.bt2_sym hbt
          · omega
          · omega
        · rw [if_neg c3, h.2.2.1 u v hu hv]
          symm
          refine St.how_eq ?_ (fun hb9 => ?_)
          · rw [tb u v hu hv]
            constructor
            · rintro (⟨q1, -⟩ | ⟨q1, w, hw, q2, q3⟩ | ⟨q1, w, hw, q2, q3⟩)
              · exact q1
              · exfalso
                rcases uniq v w hv hw q2 q3 with ⟨z1, -⟩ | ⟨z1, -⟩ <;> omega
              · exfalso
                rcases uniq u w hu hw q2 q3 with ⟨z1, -⟩ | ⟨z1, -⟩ <;> omega
            · intro q1
              exact Or.inl ⟨q1, fun q2 => c3 (uniq u v hu hv q1 q2)⟩
          · obtain ⟨-, su, sv, -⟩ := Fx.1 u v hu hv hb9
            rw [oeq u v (nep u su) (nep v sv), oeq v u (nep v sv) (nep u su)]
  · have none9 : ∀ u v : Nat, u < 40 → v < 40 → S.bound u v → ¬ S.bt2 u v x y := by
      intro u v hu hv hb hbt
      rcases Nat.lt_trichotomy u v with c | c | c
      · exact hex ⟨v, u, hv, c, (Fx.1 u v hu hv hb).1, St.bt2_sym hbt⟩
      · subst c
        obtain ⟨-, q⟩ := hbt
        have n1 : 0 ≤ (S.xs u - x) * (S.xs u - x) := by
          rcases Int.le_total 0 (S.xs u - x) with c | c
          · exact Int.mul_nonneg c c
          · exact Int.mul_nonneg_of_nonpos_of_nonpos c c
        have n2 : 0 ≤ (S.ys u - y) * (S.ys u - y) := by
          rcases Int.le_total 0 (S.ys u - y) with c | c
          · exact Int.mul_nonneg c c
          · exact Int.mul_nonneg_of_nonpos_of_nonpos c c
        omega
      · exact hex ⟨u, v, hu, c, hb, hbt⟩
    have hfold : X.lays p x y z = X.uP p (some (x, y, z)) := Sh.layI_no 40 0 (fun a b _ ha hba hac => by
      obtain ⟨q1, q2⟩ := (hact a b (by omega) (by omega)).mp hac
      exact none9 a b (by omega) (by omega) q1 q2)
    rw [hfold]
    refine finish _ rfl rfl (fun u v hu hv => ?_)
    show X.2.1 u v = _
    rw [h.2.2.1 u v hu hv]
    symm
    refine St.how_eq ?_ (fun hb9 => ?_)
    · rw [tb u v hu hv]
      constructor
      · rintro (⟨q1, -⟩ | ⟨-, w, hw, q2, q3⟩ | ⟨-, w, hw, q2, q3⟩)
        · exact q1
        · exact absurd q3 (none9 v w hv hw q2)
        · exact absurd q3 (none9 u w hu hw q2)
      · intro q1
        exact Or.inl ⟨q1, none9 u v hu hv q1⟩
    · obtain ⟨-, su, sv, -⟩ := Fx.1 u v hu hv hb9
      rw [oeq u v (nep u su) (nep v sv), oeq v u (nep v sv) (nep u su)]
