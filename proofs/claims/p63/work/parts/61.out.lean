/-! A POINT TAKEN OUT: a mesh again. By hand. -/
theorem sumR_3v (f : Nat → Int) : sumR 3 f = f 0 + f 1 + f 2 := by
  show (0 : Int) + f 0 + f 1 + f 2 = _
  omega
/-- the last ear: the mesh is whole -/
theorem St.HI_last {S T T' : St} (hM : S.Msh) {p : Nat} (hp : p < 40) (hin : ¬ S.onB p) (sp : S.has p) (hl : ∀ v : Nat, v < 40 → ¬ S.bound p v) (h : S.HI T p 3) (hc : T.cutS 3 T') : T'.Msh ∧ T'.wq ∧ T'.w4 ∧ T'.xs = S.xs ∧ T'.ys = S.ys ∧ T'.th = bClr S.th p ∧ T'.fx = S.fx := by
  obtain ⟨hG, ⟨hf1, hf2⟩, hE1, hE2⟩ := hM
  obtain ⟨⟨h1, h2, h3, hx, hy, hth, hfx⟩, hr, hinj, hH, hno, ⟨hsg, hst⟩, hone, hal, hD⟩ := h
  have hG' := hG
  obtain ⟨hinB, hdi, hA, hcy, hpo, hcv, hbd, hbn, hal0⟩ := hG'
  rcases hc with ⟨k, rd, hk, hear, hrd, e⟩ | ⟨hnone, -⟩
  · rw [mod_nx hk, mod_pv hk] at e
    have hW := (St.earAt_W hx hy hk hinj).mp hear
    have hpv := pv_lt_n hk
    have hnx := nx_lt_n hk
    have enp : nx 3 (pvx 3 k) = k := by unfold nx pvx; (repeat' split) <;> omega
    have enn : nx 3 (nx 3 k) = pvx 3 k := by unfold nx pvx; (repeat' split) <;> omega
    obtain ⟨a4, aE, ap⟩ := hr _ hpv
    obtain ⟨b4, bE, bp⟩ := hr _ hk
    obtain ⟨c4, cE, cp⟩ := hr _ hnx
    have tab : ¬ T.E (T.rr (pvx 3 k)) (T.rr k) := by have := hno _ hpv; rw [enp] at this; exact this
    have tbc := hno _ hk
    have tca : ¬ T.E (T.rr (nx 3 k)) (T.rr (pvx 3 k)) := by have := hno _ hnx; rw [enn] at this; exact this
    have hhas : ∀ u : Nat, u < 40 → (T.has u ↔ S.has u ∧ u ≠ p) := fun u hu => by
      show bt T.th u = true ↔ _
      rw [hth, bt_clr (by omega)]
      simp
    have sE : ∀ u : Nat, u < 40 → S.E p u → S.has u := fun u hu z => (St.E_has hG.PM hp hu z).2
    have st := St.Stp_put h1 h2 a4 b4 c4 (St.nE.mp tab) (St.nE.mp tbc) (St.nE.mp tca) ((hhas _ a4).mpr ⟨sE _ a4 aE, ap⟩) ((hhas _ b4).mpr ⟨sE _ b4 bE, bp⟩) ((hhas _ c4).mpr ⟨sE _ c4 cE, cp⟩) (by rw [St.sd3_eq hx hy]; exact hW.1)
    have hput : ∃ wa qu qn, T.put (T.rr (pvx 3 k)) (T.rr k) (T.rr (nx 3 k)) = sM T.xs T.ys T.hs T.fx T.hx T.hy T.th T.hn T.g (ap3 T.ap (T.rr (pvx 3 k)) (T.rr k) (T.rr (nx 3 k)) (T.rr (nx 3 k)) (T.rr (pvx 3 k)) (T.rr k)) T.ow T.co T.en T.ne T.rd T.tn T.ec T.li wa qu qn := St.put_st T _ _ _
    -- the hole's edges are those of the ear
    have hE3 : ∀ x y : Nat, hE T.rr 3 x y ↔ e3 (T.rr (pvx 3 k)) (T.rr k) (T.rr (nx 3 k)) x y := by
      intro x y
      constructor
      · rintro ⟨i, hi, q1, q2⟩
        have : i = pvx 3 k ∨ i = k ∨ i = nx 3 k := by unfold nx pvx; (repeat' split) <;> omega
        rcases this with z | z | z
        · rw [q1, q2, z, enp]; exact Or.inl ⟨rfl, rfl⟩
        · rw [q1, q2, z]; exact Or.inr (Or.inl ⟨rfl, rfl⟩)
        · rw [q1, q2, z, enn]; exact Or.inr (Or.inr ⟨rfl, rfl⟩)
      · rintro (⟨q1, q2⟩ | ⟨q1, q2⟩ | ⟨q1, q2⟩)
        · exact ⟨pvx 3 k, hpv, q1, by rw [enp]; exact q2⟩
        · exact ⟨k, hk, q1, q2⟩
        · exact ⟨nx 3 k, hnx, q1, by rw [enn]; exact q2⟩
    have hsum : ∀ g : Nat → Nat → Int, sumR 3 (fun i => g (T.rr i) (T.rr (nx 3 i))) = g (T.rr (pvx 3 k)) (T.rr k) + g (T.rr k) (T.rr (nx 3 k)) + g (T.rr (nx 3 k)) (T.rr (pvx 3 k)) := by
      intro g
      rw [sumR_3v]
      have h0 : nx 3 0 = 1 := rfl
      have h1 : nx 3 1 = 2 := rfl
      have h2 : nx 3 2 = 0 := rfl
      have g0 : pvx 3 0 = 2 := rfl
      have g1 : pvx 3 1 = 0 := rfl
      have g2 : pvx 3 2 = 1 := rfl
      have hk3 : k = 0 ∨ k = 1 ∨ k = 2 := by omega
      rcases hk3 with z | z | z <;> subst z <;> simp only [h0, h1, h2, g0, g1, g2] <;> omega
    generalize T.put (T.rr (pvx 3 k)) (T.rr k) (T.rr (nx 3 k)) = P at *
    obtain ⟨wa, qu, qn, eP⟩ := hput
    have hfxP : P.fx = T.fx := by rw [eP]; rfl
    have tE : ∀ x y : Nat, x < 40 → y < 40 → (T'.E x y ↔ T.E x y ∨ hE T.rr 3 x y) := by
      intro x y hx2 hy2
      have eE : T'.E x y ↔ P.E x y := by rw [e]; exact Iff.rfl
      rw [eE, st.E hx2 hy2, hE3]
      exact ⟨fun z => z.elim (fun q => Or.inl q.1) (fun q => Or.inr q), fun z => z.elim (fun q => Or.inl ⟨q, fun w => w⟩) (fun q => Or.inr q)⟩
    have one : ∀ x y : Nat, x < 40 → y < 40 → ((T'.E x y ∧ ¬ T'.E y x) ↔ (S.E x y ∧ ¬ S.E y x)) := by
      intro x y hx2 hy2
      rw [tE x y hx2 hy2, tE y x hy2 hx2]
      exact hone x y hx2 hy2
    have x' : T'.xs = S.xs := by rw [e]; exact st.2.1.trans hx
    have y' : T'.ys = S.ys := by rw [e]; exact st.2.2.1.trans hy
    have th' : T'.th = bClr S.th p := by rw [e]; exact st.2.2.2.1.trans hth
    have fx' : T'.fx = S.fx := by rw [e]; exact hfxP.trans hfx
    have PM' : T'.PM := by rw [e]; exact St.PM_geo (St.geo_mk rfl rfl rfl rfl) st.1
    have has' : ∀ u : Nat, T'.has u ↔ S.has u ∧ u ≠ p := fun u => by
      show bt T'.th u = true ↔ _
      rw [th', bt_clr (by omega)]
      simp
    have Sg' : ∀ g : Nat → Nat → Int, (∀ u v : Nat, g v u = -g u v) → T'.Sg g = S.Sg g := by
      intro g hg
      have q1 := hsg g hg
      have q2 := st.2.2.2.2.2.2.1 g hg
      have q3 : T'.Sg g = P.Sg g := by rw [e]; rfl
      rw [hsum g] at q1
      rw [q3, q2]
      exact q1
    have bd' : ∀ u v : Nat, T'.bound u v ↔ S.bound u v := fun u v => by unfold St.bound; rw [fx']
    refine ⟨⟨⟨?_, ?_, PM'.1, PM'.2.1, PM'.2.2, ?_, ?_, ?_, ?_⟩, ⟨?_, ?_⟩, ?_, ?_⟩, by rw [e]; exact st.2.2.2.2.1, by rw [e]; exact st.2.2.2.2.2.1 h3, x', y', th', fx'⟩
    · intro j hj
      rw [x', y']
      exact hinB j hj
    · intro u v hu hv s1 s2 e1 e2
      rw [has'] at s1 s2
      rw [x'] at e1
      rw [y'] at e2
      exact hdi u v hu hv s1.1 s2.1 e1 e2
    · intro X Y s hg hi
      obtain ⟨X', Y', Z', ⟨hg2, hi2, hs2, -⟩, ho2⟩ := St.near_ex2 hdi (x := X) (y := Y) (s := s) (p := 1) (q := 0) (p' := 0) (q' := 1) hg.1 (by decide)
      have ew : T'.Sg (T'.wd X Y s) = T'.Sg (S.wd X' Y' Z') := by
        apply sumR_congr
        intro e0 he
        by_cases c : T'.ap e0 = -1
        · rw [if_pos c, if_pos c]
        · rw [if_neg c, if_neg c]
          obtain ⟨a, b, q, ha, hb, hq, e1, e2, e3, m1, m2, m3, g1, g2, g3, g4, n1, n2, n3⟩ := St.edge PM'.1 PM'.2.1 PM'.2.2 he c
          rw [e2, e3]
          have v1 := hg.2.1 a ha g1
          have v2 := hg.2.1 b hb g2
          have v3 := hg.2.2 a b ha hb g1 g2 n1
          have v4 := hs2 a b ha hb
          have v5 := ho2 a
          have v6 := ho2 b
          have eH : T'.Hs a b X Y s = S.Hs a b X Y s := by unfold St.Hs; rw [x', y']
          rw [x'] at v1 v2
          rw [eH] at v3
          unfold St.wd
          rw [eH, x']
          by_cases c1 : s * S.xs a < X ∧ X < s * S.xs b ∧ 0 < S.Hs a b X Y s
          · rw [if_pos c1, if_pos ⟨v5.1 c1.1, v6.2 c1.2.1, v4.1 c1.2.2⟩]
          · by_cases c2 : X < s * S.xs a ∧ s * S.xs b < X ∧ S.Hs a b X Y s < 0
            · have t1 := v5.2 c2.1
              rw [if_neg c1, if_pos c2, if_neg (fun z => by have := z.1; omega), if_pos ⟨t1, v6.1 c2.2.1, v4.2.1 c2.2.2⟩]
            · rw [if_neg c1, if_neg c2, if_neg, if_neg]
              · rintro ⟨z1, z2, z3⟩
                apply c2
                refine ⟨?_, ?_, ?_⟩
                · rcases Int.lt_or_gt_of_ne v1 with t | t
                  · have := v5.1 t; omega
                  · exact t
                · rcases Int.lt_or_gt_of_ne v2 with t | t
                  · exact t
                  · have := v6.2 t; omega
                · rcases Int.lt_or_gt_of_ne v3 with t | t
                  · exact t
                  · have := v4.1 t; omega
              · rintro ⟨z1, z2, z3⟩
                apply c1
                refine ⟨?_, ?_, ?_⟩
                · rcases Int.lt_or_gt_of_ne v1 with t | t
                  · exact t
                  · have := v5.2 t; omega
                · rcases Int.lt_or_gt_of_ne v2 with t | t
                  · have := v6.1 t; omega
                  · exact t
                · rcases Int.lt_or_gt_of_ne v3 with t | t
                  · have := v4.2.1 t; omega
                  · exact t
      rw [ew, Sg' _ (fun u v => St.wd_anti S X' Y' Z' u v)]
      exact hcv X' Y' Z' hg2 (hi2 hi)
    · intro u v hu hv y1 y2
      have := (one u v hu hv).mp ⟨y1, St.nE.mpr y2⟩
      have := hbd u v hu hv this.1 (St.nE.mp this.2)
      unfold St.onside at *
      rw [x', y']
      exact this
    · intro q hq sq ob
      rw [has'] at sq
      have ob2 : S.onB q := by unfold St.onB at *; rw [x', y'] at ob; exact ob
      obtain ⟨v, hv, v1, v2⟩ := hbn q hq sq.1 ob2
      have := (one q v hq hv).mpr ⟨v1, St.nE.mpr v2⟩
      exact ⟨v, hv, this.1, St.nE.mp this.2⟩
    · intro q hq sq
      rw [has'] at sq
      obtain ⟨v, hv, v1⟩ := hal0 q hq sq.1
      by_cases c : v = p
      · subst c
        -- p is beside q: the triangle on the other side tells of a third one
        have z : S.ap (v * 40 + q) ≠ -1 := fun z2 => by
          have := hbd q v hq hp v1 z2
          apply hin
          unfold St.onside at this
          unfold St.onB
          omega
        obtain ⟨w, hw, k1, k2, k3, k4, g1, g2, g3, g4, n1, n2, n3⟩ := St.step hA hcy hpo hp hq z
        have sw : S.E q w := by unfold St.E; omega
        exact ⟨w, hw, (tE q w hq hw).mpr (hal q w hq hw sq.2 n3 sw)⟩
      · exact ⟨v, hv, (tE q v hq hv).mpr (hal q v hq hv sq.2 c v1)⟩
    · intro x y hx2 hy2 hxy
      rw [bd'] at hxy
      obtain ⟨w1, w2, w3, w4⟩ := hf1 x y hx2 hy2 hxy
      have nx1 : x ≠ p := fun z => hl y hy2 (by rw [← z]; exact hxy)
      have ny1 : y ≠ p := fun z => hl x hx2 (by rw [← z]; exact w1)
      rw [bd', has', has']
      refine ⟨w1, ⟨w2, nx1⟩, ⟨w3, ny1⟩, ?_⟩
      rcases w4 with w4 | w4
      · exact Or.inl ((tE x y hx2 hy2).mpr (hal x y hx2 hy2 nx1 ny1 w4))
      · exact Or.inr ((tE y x hy2 hx2).mpr (hal y x hy2 hx2 ny1 nx1 w4))
    · intro x y hx2 hy2 y1 y2
      have := (one x y hx2 hy2).mp ⟨y1, St.nE.mpr y2⟩
      exact (bd' x y).mpr (hf2 x y hx2 hy2 this.1 (St.nE.mp this.2))
    · have e1 : T'.nV = S.nV - 1 := by
        unfold St.nV
        have e : ∀ k : Nat, k < 40 → (if T'.has k then (1 : Int) else 0) = (if k = p then 0 else if S.has k then 1 else 0) := by
          intro k _
          by_cases c : k = p
          · rw [if_neg (fun z => ((has' k).mp z).2 c), if_pos c]
          · rw [if_neg c]
            by_cases c2 : S.has k
            · rw [if_pos ((has' k).mpr ⟨c2, c⟩), if_pos c2]
            · rw [if_neg (fun z => c2 ((has' k).mp z).1), if_neg c2]
        rw [sumR_congr e, sumR_upd (f := fun k => if S.has k then 1 else 0) hp, if_pos sp]
        omega
      have e2 : T'.Bd = S.Bd := by
        rw [St.Bd_E, St.Bd_E]
        apply sumR_congr
        intro e0 he
        have := one (e0 / 40) (e0 % 40) (by omega) (by omega)
        by_cases c : S.E (e0 / 40) (e0 % 40) ∧ ¬ S.E (e0 % 40) (e0 / 40)
        · rw [if_pos c, if_pos (this.mpr c)]
        · rw [if_neg c, if_neg (fun z => c (this.mp z))]
      have q2 := st.2.2.2.2.2.2.2.1
      have q3 : T'.SgT (fun _ _ _ => 1) = P.SgT (fun _ _ _ => 1) := by rw [e]; rfl
      rw [e1, e2, q3, q2]
      omega
    · have e1 : T'.arf = S.arf := by
        funext u v
        unfold St.arf
        rw [x', y']
      rw [e1, Sg' _ (fun u v => by unfold St.arf; omega)]
      exact hE2
  · exfalso
    obtain ⟨i, hi, he⟩ := St.hole_ear hH
    exact hnone i hi ((St.earAt_W hx hy hi hinj).mpr he)
theorem St.HI_cuts {S : St} (hM : S.Msh) {p : Nat} (hp : p < 40) (hin : ¬ S.onB p) (sp : S.has p) (hl : ∀ v : Nat, v < 40 → ¬ S.bound p v) : ∀ (d : Nat) {T T' : St}, d + 3 ≤ 39 → S.HI T p (d + 3) → St.cuts (d + 1) (d + 3) T T' → T'.Msh ∧ T'.wq ∧ T'.w4 ∧ T'.xs = S.xs ∧ T'.ys = S.ys ∧ T'.th = bClr S.th p ∧ T'.fx = S.fx := by
  intro d
  induction d with
  | zero =>
    intro T T' _ h hc
    obtain ⟨S1, h1, h2⟩ := hc
    have h2' : T' = S1 := h2
    rw [h2']
    exact St.HI_last hM hp hin sp hl h h1
  | succ d ih =>
    intro T T' hd h hc
    obtain ⟨S1, h1, h2⟩ := hc
    have h3 := St.HI_cut hM.1 hp sp h (by omega) (by omega) h1
    exact ih (by omega) h3 h2
/-- the triangles about p taken away -/
theorem St.stp_Stp {p n : Nat} {r : Nat → Nat} (hp : p < 40) (hr : ∀ j : Nat, j < n → r j < 40 ∧ r j ≠ p) (hinj : ∀ i j : Nat, i < n → j < n → r i = r j → i = j) : ∀ (d k : Nat) {T : St}, k + d = n → T.PM → T.wq → (∀ j : Nat, j < n → T.rr j = r j) → (∀ j : Nat, k ≤ j → j < n → T.ap (p * 40 + r j) = (r (nx n j) : Int)) →
    T.Stp (St.stp p n d k T) (fun g => -sumR d (fun i => g p (r (k + i)) + g (r (k + i)) (r (nx n (k + i))) + g (r (nx n (k + i))) p)) (-3 * (d : Int)) no2 (fun x y => ∃ j : Nat, k ≤ j ∧ j < n ∧ e3 p (r j) (r (nx n j)) x y) no2 no2 ∧ (St.stp p n d k T).rd = T.rd ∧ (St.stp p n d k T).fx = T.fx := by
  intro d
  induction d with
  | zero =>
    intro k T hk hPM hq hrr hap
    have hE : ∀ x y : Nat, ¬ ∃ j : Nat, k ≤ j ∧ j < n ∧ e3 p (r j) (r (nx n j)) x y := fun x y ⟨j, j1, j2, _⟩ => by omega
    refine ⟨⟨hPM, rfl, rfl, rfl, hq, fun z => z, fun g _ => ?_, ?_, fun x y _ _ => ?_, fun x y _ _ => ?_⟩, rfl, rfl⟩
    · show T.Sg g = T.Sg g + -(0 : Int)
      omega
    · show T.SgT _ = T.SgT _ + -3 * ((0 : Nat) : Int)
      omega
    · exact ⟨fun z => Or.inl ⟨z, hE x y⟩, fun z => z.elim (fun q => q.1) (fun q => q.elim)⟩
    · exact ⟨fun z => Or.inl ⟨z, fun q => q⟩, fun z => z.elim (fun q => q.1) (fun q => q.elim)⟩
  | succ d ih =>
    intro k T hk hPM hq hrr hap
    have hkn : k < n := by omega
    obtain ⟨rk4, rkp⟩ := hr k hkn
    obtain ⟨rn4, rnp⟩ := hr _ (nx_lt_n hkn)
    have e0 : St.stp p n (d + 1) k T = St.stp p n d (k + 1) (T.strip p (r k) (r (nx n k))) := by
      show St.stp p n d (k + 1) (T.strip p (T.rr k) (T.rr ((k + 1) % n))) = _
      rw [mod_nx hkn, hrr k hkn, hrr _ (nx_lt_n hkn)]
    have s1 := St.Stp_strip hPM hq hp rk4 rn4 (hap k (Nat.le_refl _) hkn)
    obtain ⟨s2, s3, s4⟩ := ih (k + 1) (T := T.strip p (r k) (r (nx n k))) (by omega) s1.1 s1.2.2.2.2.1 (fun j hj => hrr j hj) (fun j j1 j2 => by
      obtain ⟨rj4, rjp⟩ := hr j j2
      have hne : r j ≠ r k := fun z => by have := hinj j k j2 hkn z; omega
      rw [St.strip_ap, if_neg (by omega), if_neg (by omega), if_neg (by omega)]
      exact hap j (by omega) j2)
    rw [e0]
    refine ⟨(s1.comp s2).conv (fun g _ => ?_) (by omega) (fun x y _ _ => ?_) (fun x y _ _ => by simp [no2]), s3, s4⟩
    · show -(g p (r k) + g (r k) (r (nx n k)) + g (r (nx n k)) p) + -sumR d (fun i => g p (r (k + 1 + i)) + g (r (k + 1 + i)) (r (nx n (k + 1 + i))) + g (r (nx n (k + 1 + i))) p) = -sumR (d + 1) (fun i => g p (r (k + i)) + g (r (k + i)) (r (nx n (k + i))) + g (r (nx n (k + i))) p)
      rw [show d + 1 = 1 + d by omega, sumR_split]
      have e1 : sumR 1 (fun i => g p (r (k + i)) + g (r (k + i)) (r (nx n (k + i))) + g (r (nx n (k + i))) p) = g p (r k) + g (r k) (r (nx n k)) + g (r (nx n k)) p := by
        show (0 : Int) + (g p (r (k + 0)) + g (r (k + 0)) (r (nx n (k + 0))) + g (r (nx n (k + 0))) p) = _
        rw [Nat.add_zero]
        omega
      have e2 : sumR d (fun j => g p (r (k + (1 + j))) + g (r (k + (1 + j))) (r (nx n (k + (1 + j)))) + g (r (nx n (k + (1 + j)))) p) = sumR d (fun i => g p (r (k + 1 + i)) + g (r (k + 1 + i)) (r (nx n (k + 1 + i))) + g (r (nx n (k + 1 + i))) p) := sumR_congr (fun i _ => by rw [show k + (1 + i) = k + 1 + i by omega])
      rw [e1, e2]
      omega
    · have hsp : (∃ j : Nat, k ≤ j ∧ j < n ∧ e3 p (r j) (r (nx n j)) x y) ↔ e3 p (r k) (r (nx n k)) x y ∨ ∃ j : Nat, k + 1 ≤ j ∧ j < n ∧ e3 p (r j) (r (nx n j)) x y := by
        constructor
        · rintro ⟨j, j1, j2, j3⟩
          by_cases c : j = k
          · rw [c] at j3; exact Or.inl j3
          · exact Or.inr ⟨j, by omega, j2, j3⟩
        · rintro (z | ⟨j, j1, j2, j3⟩)
          · exact ⟨k, Nat.le_refl _, hkn, z⟩
          · exact ⟨j, by omega, j2, j3⟩
      rw [hsp]
      simp only [no2, false_and, false_or, or_false]
/-- a point taken out, from its ring on -/
theorem St.out_ok {S : St} (hM : S.Msh) (hq : S.wq) (h4 : S.w4) {p v0 n : Nat} {rd : Nat → Int} (hp : p < 40) (hin : ¬ S.onB p) (sp : S.has p) (hl : ∀ v : Nat, v < 40 → ¬ S.bound p v) (hv0 : v0 < 40) (hE0 : S.E p v0) (hr : S.rnd p v0 n) (hrd : ∀ j : Nat, j < n → rd j = (S.it p v0 j : Int)) :
    2 ≤ n ∧ ∀ S' : St, St.cuts (n - 2) n ((St.stp p n n 0 (S.u_rd rd)).rem p) S' → S'.Msh ∧ S'.wq ∧ S'.w4 ∧ S'.xs = S.xs ∧ S'.ys = S.ys ∧ S'.th = bClr S.th p ∧ S'.fx = S.fx := by
  have hG := hM.1
  obtain ⟨r3, r39, ring, rinj, rP1, rall⟩ := St.ring hG hp hin hv0 hE0 hr
  refine ⟨by omega, fun S' hc => ?_⟩
  have hPM : (S.u_rd rd).PM := St.PM_geo (St.geo_mk rfl rfl rfl rfl) hG.PM
  have hrr : ∀ j : Nat, j < n → (S.u_rd rd).rr j = S.it p v0 j := by
    intro j hj
    show (rd j).toNat = _
    rw [hrd j hj]
    rfl
  obtain ⟨st, srd, sfx⟩ := St.stp_Stp (p := p) (n := n) (r := S.it p v0) hp (fun j hj => ⟨(ring j hj).1, (ring j hj).2.2.2.1⟩) rinj n 0 (T := S.u_rd rd) (by omega) hPM hq hrr (fun j _ hj => (ring j hj).2.2.2.2)
  obtain ⟨t1, t2, t3, t4, t5, t6, t7, t8, t9, t10⟩ := st
  generalize St.stp p n n 0 (S.u_rd rd) = T at *
  have trr : ∀ j : Nat, j < n → (T.rem p).rr j = S.it p v0 j := by
    intro j hj
    show (T.rd j).toNat = _
    rw [srd]
    exact hrr j hj
  have tE : ∀ x y : Nat, x < 40 → y < 40 → ((T.rem p).E x y ↔ S.E x y ∧ ¬ ∃ j : Nat, j < n ∧ e3 p (S.it p v0 j) (S.it p v0 (nx n j)) x y) := by
    intro x y hx hy
    refine (t9 x y hx hy).trans ?_
    constructor
    · rintro (⟨z1, z2⟩ | z)
      · exact ⟨z1, fun ⟨j, j1, j2⟩ => z2 ⟨j, Nat.zero_le _, j1, j2⟩⟩
      · exact z.elim
    · rintro ⟨z1, z2⟩
      exact Or.inl ⟨z1, fun ⟨j, _, j1, j2⟩ => z2 ⟨j, j1, j2⟩⟩
  have noP : ∀ v : Nat, v < 40 → ¬ (T.rem p).E p v ∧ ¬ (T.rem p).E v p := by
    intro v hv
    constructor
    · intro z
      obtain ⟨z1, z2⟩ := (tE p v hp hv).mp z
      obtain ⟨j, j1, j2⟩ := rall v hv z1
      exact z2 ⟨j, j1, Or.inl ⟨rfl, j2⟩⟩
    · intro z
      obtain ⟨z1, z2⟩ := (tE v p hv hp).mp z
      have b1 := hG.2.2.1 (v * 40 + p) (by omega)
      unfold St.E at z1
      obtain ⟨c, hc2⟩ := Int.eq_ofNat_of_zero_le (show 0 ≤ S.ap (v * 40 + p) by omega)
      have hc4 : c < 40 := by omega
      obtain ⟨k1, k2⟩ := hG.2.2.2.1 v p c hv hp hc4 hc2
      obtain ⟨j, j1, j2⟩ := rall c hc4 (by unfold St.E; omega)
      have := (ring j j1).2.2.2.2
      rw [← j2, k1] at this
      exact z2 ⟨j, j1, Or.inr (Or.inr ⟨by omega, rfl⟩)⟩
  have hthb : (T.rem p).th = bClr S.th p := by
    show bClr T.th p = _
    rw [t4]
    rfl
  have PM2 : (T.rem p).PM := by
    refine ⟨t1.1, t1.2.1, fun a b c ha hb hc hz => ?_⟩
    obtain ⟨g1, g2, g3, g4⟩ := t1.2.2 a b c ha hb hc hz
    obtain ⟨k1, k2⟩ := t1.2.1 a b c ha hb hc hz
    have hz' : (T.rem p).ap (a * 40 + b) = (c : Int) := hz
    have k1' : (T.rem p).ap (b * 40 + c) = (a : Int) := k1
    have Eab : (T.rem p).E a b := by unfold St.E; omega
    have Ebc : (T.rem p).E b c := by unfold St.E; omega
    have na : a ≠ p := fun z => (noP b hb).1 (by rw [z] at Eab; exact Eab)
    have nb : b ≠ p := fun z => (noP a ha).2 (by rw [z] at Eab; exact Eab)
    have nc : c ≠ p := fun z => (noP b hb).2 (by rw [z] at Ebc; exact Ebc)
    have hh : ∀ u : Nat, u ≠ p → T.has u → (T.rem p).has u := fun u hu z => by
      show bt (bClr T.th p) u = true
      rw [bt_clr (by omega), show bt T.th u = true from z]
      simp [hu]
    exact ⟨hh a na g1, hh b nb g2, hh c nc g3, g4⟩
  have hHI : S.HI (T.rem p) p n := by
    refine ⟨⟨PM2, t5, t6 h4, t2, t3, hthb, sfx⟩, ?_, ?_, ?_, ?_, ⟨?_, ?_⟩, ?_, ?_, ?_⟩
    · intro i hi
      rw [trr i hi]
      exact ⟨(ring i hi).1, (ring i hi).2.1, (ring i hi).2.2.2.1⟩
    · intro i j hi hj z
      rw [trr i hi, trr j hj] at z
      exact rinj i j hi hj z
    · left
      obtain ⟨q1, q2, q3⟩ := rP1
      refine ⟨q1, fun i hi => ?_, fun i j hi hj z1 z2 => ?_⟩
      · rw [trr i hi, trr _ (nx_lt_n hi)]; exact q2 i hi
      · rw [trr i hi, trr _ (nx_lt_n hi), trr j hj]; exact q3 i j hi hj z1 z2
    · intro i hi
      rw [trr i hi, trr _ (nx_lt_n hi), tE _ _ (ring i hi).1 (ring _ (nx_lt_n hi)).1]
      rintro ⟨-, z⟩
      exact z ⟨i, hi, Or.inr (Or.inl ⟨rfl, rfl⟩)⟩
    · intro g hg
      have q1 : (T.rem p).Sg g = T.Sg g := rfl
      have q2 := t7 g hg
      have q3 : (S.u_rd rd).Sg g = S.Sg g := rfl
      have q4 : sumR n (fun i => g ((T.rem p).rr i) ((T.rem p).rr (nx n i))) = sumR n (fun i => g (S.it p v0 i) (S.it p v0 (nx n i))) := sumR_congr (fun i hi => by rw [trr i hi, trr _ (nx_lt_n hi)])
      have q5 : sumR n (fun i => g p (S.it p v0 (0 + i)) + g (S.it p v0 (0 + i)) (S.it p v0 (nx n (0 + i))) + g (S.it p v0 (nx n (0 + i))) p) = sumR n (fun i => g p (S.it p v0 i)) + sumR n (fun i => g (S.it p v0 i) (S.it p v0 (nx n i))) + sumR n (fun i => g (S.it p v0 (nx n i)) p) := by
        rw [← sumR_add, ← sumR_add]
        exact sumR_congr (fun i _ => by rw [Nat.zero_add])
      -- round the ring both come to the same
      have q6 : sumR n (fun i => g (S.it p v0 (nx n i)) p) = sumR n (fun i => g (S.it p v0 i) p) := by
        have e1 := sumR_skip (fun s => g (S.it p v0 s) p) (n - 1) 0 (Nat.zero_le _)
        rw [show n - 1 + 1 = n by omega] at e1
        have e2 : sumR n (fun i => g (S.it p v0 (nx n i)) p) = sumR (n - 1) (fun i => g (S.it p v0 (nx n i)) p) + g (S.it p v0 (nx n (n - 1))) p := by
          have : sumR (n - 1 + 1) (fun i => g (S.it p v0 (nx n i)) p) = sumR (n - 1) (fun i => g (S.it p v0 (nx n i)) p) + g (S.it p v0 (nx n (n - 1))) p := rfl
          rw [show n - 1 + 1 = n by omega] at this
          exact this
        have e3 : sumR (n - 1) (fun i => g (S.it p v0 (nx n i)) p) = sumR (n - 1) (fun j => g (S.it p v0 (if j < 0 then j else j + 1)) p) := sumR_congr (fun i hi => by rw [nx_lt (by omega), if_neg (by omega)])
        rw [e2, nx_end (by omega), e3]
        exact e1
      have q7 : sumR n (fun i => g p (S.it p v0 i)) = -sumR n (fun i => g (S.it p v0 i) p) := by
        rw [← sumR_neg]
        exact sumR_congr (fun i _ => hg (S.it p v0 i) p)
      rw [q1, q2, q3, q4]
      show S.Sg g + -sumR n (fun i => g p (S.it p v0 (0 + i)) + g (S.it p v0 (0 + i)) (S.it p v0 (nx n (0 + i))) + g (S.it p v0 (nx n (0 + i))) p) + _ = _
      rw [q5, q6, q7]
      omega
    · have q1 : (T.rem p).SgT (fun _ _ _ => 1) = T.SgT (fun _ _ _ => 1) := rfl
      have q3 : (S.u_rd rd).SgT (fun _ _ _ => 1) = S.SgT (fun _ _ _ => 1) := rfl
      rw [q1, t8, q3]
      omega
    · -- present or of the hole: what was there, but at p
      have star : ∀ x y : Nat, x < 40 → y < 40 → (((T.rem p).E x y ∨ hE (T.rem p).rr n x y) ↔ S.E x y ∧ x ≠ p ∧ y ≠ p) := by
        intro x y hx hy
        rw [tE x y hx hy]
        constructor
        · rintro (⟨z1, z2⟩ | ⟨i, hi, r1, r2⟩)
          · refine ⟨z1, fun z => ?_, fun z => ?_⟩
            · exact (noP y hy).1 (by have q := (tE x y hx hy).mpr ⟨z1, z2⟩; rw [z] at q; exact q)
            · exact (noP x hx).2 (by have q := (tE x y hx hy).mpr ⟨z1, z2⟩; rw [z] at q; exact q)
          · rw [trr i hi] at r1
            rw [trr _ (nx_lt_n hi)] at r2
            obtain ⟨m1, m2, m3, m4, m5⟩ := ring i hi
            obtain ⟨k1, -⟩ := hG.2.2.2.1 p (S.it p v0 i) (S.it p v0 (nx n i)) hp m1 (ring _ (nx_lt_n hi)).1 m5
            rw [r1, r2]
            exact ⟨by unfold St.E; omega, m4, (ring _ (nx_lt_n hi)).2.2.2.1⟩
        · rintro ⟨z1, z2, z3⟩
          by_cases c : ∃ j : Nat, j < n ∧ e3 p (S.it p v0 j) (S.it p v0 (nx n j)) x y
          · obtain ⟨j, j1, ⟨r1, -⟩ | ⟨r1, r2⟩ | ⟨-, r2⟩⟩ := c
            · exact absurd r1 z2
            · exact Or.inr ⟨j, j1, by rw [trr j j1]; exact r1, by rw [trr _ (nx_lt_n j1)]; exact r2⟩
            · exact absurd r2 z3
          · exact Or.inl ⟨z1, c⟩
      intro x y hx hy
      rw [star x y hx hy, star y x hy hx]
      constructor
      · rintro ⟨⟨z1, z2, z3⟩, z4⟩
        exact ⟨z1, fun q => z4 ⟨q, z3, z2⟩⟩
      · rintro ⟨z1, z2⟩
        have ob := hG.2.2.2.2.2.2.1 x y hx hy z1 (St.nE.mp z2)
        refine ⟨⟨z1, fun z => hin ?_, fun z => hin ?_⟩, fun q => z2 q.1⟩
        · rw [← z]; unfold St.onside at ob; unfold St.onB; omega
        · rw [← z]; unfold St.onside at ob; unfold St.onB; omega
    · intro x y hx hy n1 n2 z
      rw [tE x y hx hy]
      by_cases c : ∃ j : Nat, j < n ∧ e3 p (S.it p v0 j) (S.it p v0 (nx n j)) x y
      · obtain ⟨j, j1, ⟨r1, -⟩ | ⟨r1, r2⟩ | ⟨-, r2⟩⟩ := c
        · exact absurd r1 n1
        · exact Or.inr ⟨j, j1, by rw [trr j j1]; exact r1, by rw [trr _ (nx_lt_n j1)]; exact r2⟩
        · exact absurd r2 n2
      · exact Or.inl ⟨z, c⟩
    · intro i j hi hj z
      rw [trr i hi, trr j hj] at z ⊢
      exact Or.inl ((tE _ _ (ring i hi).1 (ring j hj).1).mp z).1
  have fin := St.HI_cuts hM hp hin sp hl (n - 3) (T := T.rem p) (T' := S') (by omega) (by rw [show n - 3 + 3 = n by omega]; exact hHI) (by rw [show n - 3 + 1 = n - 2 by omega, show n - 3 + 3 = n by omega]; exact hc)
  exact fin
