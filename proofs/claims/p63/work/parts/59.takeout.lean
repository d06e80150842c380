/-! A POINT TAKEN OUT: the hole, ear by ear, to the mesh behind it. By hand. -/
theorem sumR_skip (h : Nat → Int) : ∀ (n k : Nat), k ≤ n → sumR n (fun j => h (if j < k then j else j + 1)) + h k = sumR (n + 1) h := by
  intro n
  induction n with
  | zero =>
    intro k hk
    rw [show k = 0 by omega]
    show (0 : Int) + h 0 = 0 + h 0
    rfl
  | succ n ih =>
    intro k hk
    by_cases c : k = n + 1
    · subst c
      rw [sumR_congr (g := h) (fun j hj => by rw [if_pos hj])]
      rfl
    · have e := ih k (by omega)
      show sumR n (fun j => h (if j < k then j else j + 1)) + h (if n < k then n else n + 1) + h k = sumR (n + 1) h + h (n + 1)
      rw [if_neg (by omega)]
      omega
theorem sumR_rmv (G : Nat → Nat → Int) (r : Nat → Nat) {n k : Nat} (h3 : 3 ≤ n) (hk : k < n) : sumR (n - 1) (fun i => G (rmv r k i) (rmv r k (nx (n - 1) i))) = sumR n (fun i => G (r i) (r (nx n i))) - G (r (pvx n k)) (r k) - G (r k) (r (nx n k)) + G (r (pvx n k)) (r (nx n k)) := by
  have hpv := pv_lt_n hk
  have enp : nx n (pvx n k) = k := by unfold nx pvx; (repeat' split) <;> omega
  have hne : k ≠ pvx n k := by unfold pvx; split <;> omega
  have e1 : sumR (n - 1) (fun i => G (rmv r k i) (rmv r k (nx (n - 1) i))) = sumR (n - 1) (fun j => if (if j < k then j else j + 1) = pvx n k then G (r (pvx n k)) (r (nx n k)) else G (r (if j < k then j else j + 1)) (r (nx n (if j < k then j else j + 1)))) := by
    apply sumR_congr
    intro j hj
    show G (rmv r k j) (rmv r k (nx (n - 1) j)) = if (if j < k then j else j + 1) = pvx n k then G (r (pvx n k)) (r (nx n k)) else G (r (if j < k then j else j + 1)) (r (nx n (if j < k then j else j + 1)))
    have f1 : rmv r k j = r (if j < k then j else j + 1) := (apply_ite r _ _ _).symm
    have f2 : rmv r k (nx (n - 1) j) = r (if nx (n - 1) j < k then nx (n - 1) j else nx (n - 1) j + 1) := (apply_ite r _ _ _).symm
    rw [f1, f2]
    by_cases c : (if j < k then j else j + 1) = pvx n k
    · rw [if_pos c, c]
      have : (if nx (n - 1) j < k then nx (n - 1) j else nx (n - 1) j + 1) = nx n k := by
        unfold nx pvx at *; (repeat' split at c) <;> (repeat' split) <;> omega
      rw [this]
    · rw [if_neg c]
      have : (if nx (n - 1) j < k then nx (n - 1) j else nx (n - 1) j + 1) = nx n (if j < k then j else j + 1) := by
        unfold nx pvx at *; (repeat' split at c) <;> (repeat' split) <;> omega
      rw [this]
  have e2 := sumR_skip (fun s => if s = pvx n k then G (r (pvx n k)) (r (nx n k)) else G (r s) (r (nx n s))) (n - 1) k (by omega)
  rw [show n - 1 + 1 = n by omega] at e2
  have e3 := sumR_upd (f := fun s => G (r s) (r (nx n s))) (k := pvx n k) (v := G (r (pvx n k)) (r (nx n k))) hpv
  rw [if_neg hne] at e2
  rw [enp] at e3
  rw [e1]
  omega
/-- a directed edge of the hole -/
def hE (r : Nat → Nat) (n x y : Nat) : Prop := ∃ i : Nat, i < n ∧ x = r i ∧ y = r (nx n i)
/-- the hole that a point p of S has left, in T -/
def St.HI (S T : St) (p n : Nat) : Prop := (T.PM ∧ T.wq ∧ T.w4 ∧ T.xs = S.xs ∧ T.ys = S.ys ∧ T.th = bClr S.th p ∧ T.fx = S.fx) ∧ (∀ i : Nat, i < n → T.rr i < 40 ∧ S.E p (T.rr i) ∧ T.rr i ≠ p) ∧ (∀ i j : Nat, i < n → j < n → T.rr i = T.rr j → i = j) ∧ S.Hole p T.rr n ∧ (∀ i : Nat, i < n → ¬ T.E (T.rr i) (T.rr (nx n i))) ∧
  ((∀ g : Nat → Nat → Int, (∀ u v : Nat, g v u = -g u v) → T.Sg g + sumR n (fun i => g (T.rr i) (T.rr (nx n i))) = S.Sg g) ∧ T.SgT (fun _ _ _ => 1) + 3 * (n : Int) = S.SgT (fun _ _ _ => 1)) ∧
  (∀ x y : Nat, x < 40 → y < 40 → (((T.E x y ∨ hE T.rr n x y) ∧ ¬ (T.E y x ∨ hE T.rr n y x)) ↔ (S.E x y ∧ ¬ S.E y x))) ∧ (∀ x y : Nat, x < 40 → y < 40 → x ≠ p → y ≠ p → S.E x y → (T.E x y ∨ hE T.rr n x y)) ∧ ∀ i j : Nat, i < n → j < n → T.E (T.rr i) (T.rr j) → S.E (T.rr i) (T.rr j) ∨ j = nx n i ∨ i = nx n j
theorem mod_nx {n k : Nat} (hk : k < n) : (k + 1) % n = nx n k := by
  unfold nx
  split
  · exact Nat.mod_eq_of_lt (by omega)
  · rw [show k + 1 = n by omega, Nat.mod_self]
theorem mod_pv {n k : Nat} (hk : k < n) : (k + n - 1) % n = pvx n k := by
  unfold pvx
  split
  · rw [show k + n - 1 = n - 1 by omega]
    exact Nat.mod_eq_of_lt (by omega)
  · rw [show k + n - 1 = (k - 1) + n by omega, Nat.add_mod_right]
    exact Nat.mod_eq_of_lt (by omega)
theorem St.earAt_W {T S : St} (hx : T.xs = S.xs) (hy : T.ys = S.ys) {n k : Nat} (hk : k < n) (hinj : ∀ i j : Nat, i < n → j < n → T.rr i = T.rr j → i = j) : T.earAt k n ↔ S.earW T.rr n k := by
  unfold St.earAt St.ear St.earW St.in3
  rw [mod_nx hk, mod_pv hk, St.sd3_eq hx hy]
  constructor
  · rintro ⟨z1, z2⟩
    exact ⟨z1, fun j hj j1 j2 j3 z => z2 j hj ⟨⟨fun q => j1 (hinj _ _ hj (pv_lt_n hk) q), fun q => j2 (hinj _ _ hj hk q), fun q => j3 (hinj _ _ hj (nx_lt_n hk) q)⟩, z⟩⟩
  · rintro ⟨z1, z2⟩
    exact ⟨z1, fun j hj z => z2 j hj (fun q => z.1.1 (by rw [q])) (fun q => z.1.2.1 (by rw [q])) (fun q => z.1.2.2 (by rw [q])) z.2⟩
/-- a spoke forbids an edge -/
theorem St.spoke_no {S : St} (hG : S.Geo) {p a c : Nat} (hp : p < 40) (ha : a < 40) (hc : c < 40) (sp : S.has p) (hpa : a ≠ p) (hpc : c ≠ p) {V : Nat → Prop} (h : S.spoke p a c V) (hV : ∀ v : Nat, V v → v < 40 ∧ S.E p v) : ¬ S.E a c ∧ ¬ S.E c a := by
  have e1 := S.sd3_swap a c p
  rcases h with ⟨v, h1, h2, h3⟩ | ⟨b, h1, h2, h3, h4⟩
  · obtain ⟨v4, vE⟩ := hV v h1
    have e2 := S.sd3_swap a c v
    refine ⟨fun z => St.noX hG hp v4 ha hc vE z h3 h2, fun z => St.noX hG hp v4 hc ha vE z ?_ ?_⟩
    · rcases h3 with q | q
      · exact Or.inr ⟨q.2, q.1⟩
      · exact Or.inl ⟨q.2, q.1⟩
    · rcases h2 with q | q
      · exact Or.inr ⟨by omega, by omega⟩
      · exact Or.inl ⟨by omega, by omega⟩
  · have main : ∀ x y q : Nat, x < 40 → y < 40 → q < 40 → ((x = a ∧ y = c) ∨ (x = c ∧ y = a)) → S.ap (x * 40 + y) = (q : Int) → False := by
      intro x y q hx hy hq hxy hz
      obtain ⟨g1, g2, g3, g4⟩ := hG.2.2.2.2.1 x y q hx hy hq hz
      have z0 : S.sd3 x y p = 0 := by
        rcases hxy with ⟨r1, r2⟩ | ⟨r1, r2⟩
        · rw [r1, r2]; exact h1
        · rw [r1, r2]; omega
      have b1 := S.bary3 a b c p y q
      have b2 := S.bary3 a b c p q x
      have f1 : S.sd3 c a p = 0 := by omega
      have f2 : S.sd3 b c p = S.sd3 p b c := St.sd3_rot S p b c
      have f3 : S.sd3 a b p = S.sd3 p a b := St.sd3_rot S p a b
      rw [f1, f2, f3, Int.zero_mul] at b1 b2
      have pos1 : 0 ≤ S.sd3 y q p := by
        rcases hxy with ⟨r1, r2⟩ | ⟨r1, r2⟩
        · subst r1; subst r2
          have t : S.sd3 y q x = S.sd3 x y q := St.sd3_rot S x y q
          rw [St.sd3_self3, t, Int.mul_zero] at b1
          have := Int.mul_pos h4 g4
          exact mul_nn_l h2 (by omega)
        · subst r1; subst r2
          have t : S.sd3 y q x = S.sd3 x y q := St.sd3_rot S x y q
          rw [St.sd3_self3, t, Int.mul_zero] at b1
          have := Int.mul_pos h3 g4
          exact mul_nn_l h2 (by omega)
      have pos2 : 0 ≤ S.sd3 q x p := by
        rcases hxy with ⟨r1, r2⟩ | ⟨r1, r2⟩
        · subst r1; subst r2
          have t : S.sd3 q x y = S.sd3 x y q := (St.sd3_rot S q x y).symm
          rw [St.sd3_self2, t, Int.mul_zero] at b2
          have := Int.mul_pos h3 g4
          exact mul_nn_l h2 (by omega)
        · subst r1; subst r2
          have t : S.sd3 q x y = S.sd3 x y q := (St.sd3_rot S q x y).symm
          rw [St.sd3_self2, t, Int.mul_zero] at b2
          have := Int.mul_pos h4 g4
          exact mul_nn_l h2 (by omega)
      rcases St.alone hG hx hy hq hz hp sp (by omega) pos1 pos2 with z | z | z
      · rcases hxy with ⟨r1, r2⟩ | ⟨r1, r2⟩ <;> omega
      · rcases hxy with ⟨r1, r2⟩ | ⟨r1, r2⟩ <;> omega
      · subst z; omega
    have fin : ∀ x y : Nat, x < 40 → y < 40 → ((x = a ∧ y = c) ∨ (x = c ∧ y = a)) → ¬ S.E x y := by
      intro x y hx hy hxy z
      have b1 := hG.2.2.1 (x * 40 + y) (by omega)
      unfold St.E at z
      obtain ⟨q, hq⟩ := Int.eq_ofNat_of_zero_le (show 0 ≤ S.ap (x * 40 + y) by omega)
      exact main x y q hx hy (by omega) hxy hq
    exact ⟨fin a c ha hc (Or.inl ⟨rfl, rfl⟩), fin c a hc ha (Or.inr ⟨rfl, rfl⟩)⟩
/-- an ear cut -/
theorem St.HI_cut {S T T' : St} (hG : S.Geo) {p n : Nat} (hp : p < 40) (sp : S.has p) (h : S.HI T p n) (h4 : 4 ≤ n) (h39 : n ≤ 39) (hc : T.cutS n T') : S.HI T' p (n - 1) := by
  obtain ⟨⟨h1, h2, h3, hx, hy, hth, hfx⟩, hr, hinj, hH, hno, ⟨hsg, hst⟩, hone, hal, hD⟩ := h
  rcases hc with ⟨k, rd, hk, hear, hrd, e⟩ | ⟨hnone, -⟩
  · rw [mod_nx hk, mod_pv hk] at e
    have hW := (St.earAt_W hx hy hk hinj).mp hear
    obtain ⟨hH2, hsp⟩ := St.hole_cut hH h4 hk hW
    have hpv := pv_lt_n hk
    have hnx := nx_lt_n hk
    have enp : nx n (pvx n k) = k := by unfold nx pvx; (repeat' split) <;> omega
    have k1 : pvx n k ≠ k := by unfold pvx; split <;> omega
    have k2 : nx n k ≠ k := by unfold nx; split <;> omega
    have k3 : nx n k ≠ pvx n k := by unfold nx pvx; (repeat' split) <;> omega
    have k4 : nx n (nx n k) ≠ pvx n k := by unfold nx pvx; (repeat' split) <;> omega
    obtain ⟨a4, aE, ap⟩ := hr _ hpv
    obtain ⟨b4, bE, bp⟩ := hr _ hk
    obtain ⟨c4, cE, cp⟩ := hr _ hnx
    have nab : T.rr (pvx n k) ≠ T.rr k := fun z => k1 (hinj _ _ hpv hk z)
    have nbc : T.rr k ≠ T.rr (nx n k) := fun z => k2 (hinj _ _ hk hnx z).symm
    have nca : T.rr (nx n k) ≠ T.rr (pvx n k) := fun z => k3 (hinj _ _ hnx hpv z)
    obtain ⟨nac, nca2⟩ := St.spoke_no hG hp a4 c4 sp ap cp hsp (fun v ⟨j, j1, j2⟩ => by rw [j2]; exact ⟨(hr j j1).1, (hr j j1).2.1⟩)
    have tca : ¬ T.E (T.rr (nx n k)) (T.rr (pvx n k)) := fun z => by
      rcases hD _ _ hnx hpv z with q | q | q
      · exact nca2 q
      · exact k4 q.symm
      · rw [enp] at q; exact k2 q
    have tac : ¬ T.E (T.rr (pvx n k)) (T.rr (nx n k)) := fun z => by
      rcases hD _ _ hpv hnx z with q | q | q
      · exact nac q
      · rw [enp] at q; exact k2 q
      · exact k4 q.symm
    have tab : ¬ T.E (T.rr (pvx n k)) (T.rr k) := by have := hno _ hpv; rw [enp] at this; exact this
    have tbc := hno _ hk
    have hhas : ∀ u : Nat, u ≠ p → S.has u → T.has u := fun u hu z => by
      show bt T.th u = true
      rw [hth, bt_clr (by omega), show bt S.th u = true from z]
      simp [hu]
    have sE : ∀ u : Nat, u < 40 → S.E p u → S.has u := fun u hu z => (St.E_has hG.PM hp hu z).2
    have st := St.Stp_put h1 h2 a4 b4 c4 (St.nE.mp tab) (St.nE.mp tbc) (St.nE.mp tca) (hhas _ ap (sE _ a4 aE)) (hhas _ bp (sE _ b4 bE)) (hhas _ cp (sE _ c4 cE)) (by rw [St.sd3_eq hx hy]; exact hW.1)
    have hput : ∃ wa qu qn, T.put (T.rr (pvx n k)) (T.rr k) (T.rr (nx n k)) = sM T.xs T.ys T.hs T.fx T.hx T.hy T.th T.hn T.g (ap3 T.ap (T.rr (pvx n k)) (T.rr k) (T.rr (nx n k)) (T.rr (nx n k)) (T.rr (pvx n k)) (T.rr k)) T.ow T.co T.en T.ne T.rd T.tn T.ec T.li wa qu qn := St.put_st T _ _ _
    generalize T.put (T.rr (pvx n k)) (T.rr k) (T.rr (nx n k)) = P at *
    obtain ⟨wa, qu, qn, eP⟩ := hput
    have hfxP : P.fx = T.fx := by rw [eP]; rfl
    have er : ∀ j : Nat, j < n - 1 → T'.rr j = rmv T.rr k j := by
      intro j hj
      show (T'.rd j).toNat = rmv T.rr k j
      have : T'.rd = rd := by rw [e]; rfl
      rw [this, hrd j]
      unfold shf rmv
      by_cases c : j < k
      · rw [if_neg (by omega), if_pos c]; rfl
      · rw [if_pos (by omega), if_neg c]; rfl
    have eE : ∀ x y : Nat, T'.E x y ↔ P.E x y := fun x y => by rw [e]; exact Iff.rfl
    have tE : ∀ x y : Nat, x < 40 → y < 40 → (T'.E x y ↔ T.E x y ∨ e3 (T.rr (pvx n k)) (T.rr k) (T.rr (nx n k)) x y) := by
      intro x y hx2 hy2
      rw [eE, st.E hx2 hy2]
      exact ⟨fun z => z.elim (fun q => Or.inl q.1) (fun q => Or.inr q), fun z => z.elim (fun q => Or.inl ⟨q, fun w => w⟩) (fun q => Or.inr q)⟩
    -- places of the new row in the old one
    have idx : ∀ j : Nat, j < n - 1 → ∃ s : Nat, s < n ∧ s ≠ k ∧ T'.rr j = T.rr s ∧ s = (if j < k then j else j + 1) := fun j hj => ⟨if j < k then j else j + 1, by split <;> omega, by split <;> omega, by rw [er j hj]; exact (apply_ite T.rr _ _ _).symm, rfl⟩
    have idn : ∀ j : Nat, j < n - 1 → ((if j < k then j else j + 1) ≠ pvx n k ∧ T'.rr (nx (n - 1) j) = T.rr (nx n (if j < k then j else j + 1))) ∨ ((if j < k then j else j + 1) = pvx n k ∧ T'.rr (nx (n - 1) j) = T.rr (nx n k)) := by
      intro j hj
      have e0 := er (nx (n - 1) j) (nx_lt_n hj)
      have f2 : rmv T.rr k (nx (n - 1) j) = T.rr (if nx (n - 1) j < k then nx (n - 1) j else nx (n - 1) j + 1) := (apply_ite T.rr _ _ _).symm
      rw [e0, f2]
      by_cases c : (if j < k then j else j + 1) = pvx n k
      · right
        refine ⟨c, congrArg T.rr ?_⟩
        unfold nx pvx at *; (repeat' split at c) <;> (repeat' split) <;> omega
      · left
        refine ⟨c, congrArg T.rr ?_⟩
        unfold nx pvx at *; (repeat' split at c) <;> (repeat' split) <;> omega
    have onto : ∀ s : Nat, s < n → s ≠ k → ∃ j : Nat, j < n - 1 ∧ s = (if j < k then j else j + 1) := by
      intro s hs1 hs2
      by_cases c : s < k
      · exact ⟨s, by omega, by rw [if_pos c]⟩
      · exact ⟨s - 1, by omega, by rw [if_neg (by omega)]; omega⟩
    -- the hole's edges: two less, one more
    have hEn : ∀ x y : Nat, hE T'.rr (n - 1) x y ↔ (hE T.rr n x y ∧ ¬ (x = T.rr (pvx n k) ∧ y = T.rr k) ∧ ¬ (x = T.rr k ∧ y = T.rr (nx n k))) ∨ (x = T.rr (pvx n k) ∧ y = T.rr (nx n k)) := by
      intro x y
      constructor
      · rintro ⟨j, hj, q1, q2⟩
        obtain ⟨s, s1, s2, s3, s4⟩ := idx j hj
        rw [s3] at q1
        rcases idn j hj with ⟨t1, t2⟩ | ⟨t1, t2⟩
        · left
          rw [← s4] at t1 t2
          rw [t2] at q2
          refine ⟨⟨s, s1, q1, q2⟩, ?_, ?_⟩
          · rintro ⟨r1, -⟩
            exact t1 (hinj _ _ s1 hpv (by rw [← q1]; exact r1))
          · rintro ⟨r1, -⟩
            exact s2 (hinj _ _ s1 hk (by rw [← q1]; exact r1))
        · right
          rw [← s4] at t1
          rw [t1] at q1
          rw [t2] at q2
          exact ⟨q1, q2⟩
      · rintro (⟨⟨s, s1, q1, q2⟩, r1, r2⟩ | ⟨q1, q2⟩)
        · have sk : s ≠ k := fun z => r2 ⟨by rw [q1, z], by rw [q2, z]⟩
          have sp2 : s ≠ pvx n k := fun z => r1 ⟨by rw [q1, z], by rw [q2, z, enp]⟩
          obtain ⟨j, j1, j2⟩ := onto s s1 sk
          refine ⟨j, j1, ?_, ?_⟩
          · obtain ⟨s', -, -, s3, s4⟩ := idx j j1
            rw [q1, s3, s4, ← j2]
          · rcases idn j j1 with ⟨t1, t2⟩ | ⟨t1, t2⟩
            · rw [q2, t2, ← j2]
            · exact absurd (j2.trans t1) sp2
        · obtain ⟨j, j1, j2⟩ := onto (pvx n k) hpv k1
          refine ⟨j, j1, ?_, ?_⟩
          · obtain ⟨s', -, -, s3, s4⟩ := idx j j1
            rw [q1, s3, s4, ← j2]
          · rcases idn j j1 with ⟨t1, t2⟩ | ⟨t1, t2⟩
            · exact absurd j2.symm t1
            · rw [q2, t2]
    have hab : hE T.rr n (T.rr (pvx n k)) (T.rr k) := ⟨pvx n k, hpv, rfl, by rw [enp]⟩
    have hbc : hE T.rr n (T.rr k) (T.rr (nx n k)) := ⟨k, hk, rfl, rfl⟩
    have hca : ¬ hE T.rr n (T.rr (nx n k)) (T.rr (pvx n k)) := by
      rintro ⟨i, hi, q1, q2⟩
      have z1 := hinj _ _ hnx hi q1
      have z2 := hinj _ _ hpv (nx_lt_n hi) q2
      rw [← z1] at z2
      exact k4 z2.symm
    have hac : ¬ hE T.rr n (T.rr (pvx n k)) (T.rr (nx n k)) := by
      rintro ⟨i, hi, q1, q2⟩
      have z1 := hinj _ _ hpv hi q1
      have z2 := hinj _ _ hnx (nx_lt_n hi) q2
      rw [← z1, enp] at z2
      exact k2 z2
    -- present or of the hole
    have star : ∀ x y : Nat, x < 40 → y < 40 → ((T'.E x y ∨ hE T'.rr (n - 1) x y) ↔ (T.E x y ∨ hE T.rr n x y) ∨ eU (T.rr (pvx n k)) (T.rr (nx n k)) x y) := by
      intro x y hx2 hy2
      rw [tE x y hx2 hy2, hEn]
      constructor
      · rintro ((z | z) | (⟨z, -⟩ | z))
        · exact Or.inl (Or.inl z)
        · rcases z with ⟨r1, r2⟩ | ⟨r1, r2⟩ | ⟨r1, r2⟩
          · rw [r1, r2]; exact Or.inl (Or.inr hab)
          · rw [r1, r2]; exact Or.inl (Or.inr hbc)
          · exact Or.inr (Or.inr ⟨r1, r2⟩)
        · exact Or.inl (Or.inr z)
        · exact Or.inr (Or.inl z)
      · rintro ((z | z) | (z | z))
        · exact Or.inl (Or.inl z)
        · by_cases c1 : x = T.rr (pvx n k) ∧ y = T.rr k
          · exact Or.inl (Or.inr (Or.inl c1))
          · by_cases c2 : x = T.rr k ∧ y = T.rr (nx n k)
            · exact Or.inl (Or.inr (Or.inr (Or.inl c2)))
            · exact Or.inr (Or.inl ⟨z, c1, c2⟩)
        · exact Or.inr (Or.inr z)
        · exact Or.inl (Or.inr (Or.inr (Or.inr z)))
    refine ⟨⟨?_, ?_, ?_, ?_, ?_, ?_, ?_⟩, ?_, ?_, ?_, ?_, ⟨?_, ?_⟩, ?_, ?_, ?_⟩
    · rw [e]; exact St.PM_geo (St.geo_mk rfl rfl rfl rfl) st.1
    · rw [e]; exact st.2.2.2.2.1
    · rw [e]; exact st.2.2.2.2.2.1 h3
    · rw [e]; exact st.2.1.trans hx
    · rw [e]; exact st.2.2.1.trans hy
    · rw [e]; exact st.2.2.2.1.trans hth
    · rw [e]; exact hfxP.trans hfx
    · intro i hi
      obtain ⟨s, s1, s2, s3, -⟩ := idx i hi
      rw [s3]
      exact hr s s1
    · intro i j hi hj z
      obtain ⟨s, s1, s2, s3, s4⟩ := idx i hi
      obtain ⟨t, t1, t2, t3, t4⟩ := idx j hj
      rw [s3, t3] at z
      have := hinj _ _ s1 t1 z
      rw [s4, t4] at this
      split at this <;> split at this <;> omega
    · rcases hH2 with q | ⟨F, hF, q⟩
      · left
        obtain ⟨q1, q2, q3⟩ := q
        refine ⟨q1, fun i hi => ?_, fun i j hi hj z1 z2 => ?_⟩
        · rw [er i hi, er _ (nx_lt_n hi)]; exact q2 i hi
        · rw [er i hi, er _ (nx_lt_n hi), er j hj]; exact q3 i j hi hj z1 z2
      · exact Or.inr ⟨F, hF, St.P2_congr q (fun j hj => er _ (ro_lt hF hj))⟩
    · intro i hi
      obtain ⟨s, s1, s2, s3, s4⟩ := idx i hi
      have i4 := (hr s s1).1
      rcases idn i hi with ⟨t1, t2⟩ | ⟨t1, t2⟩
      · rw [s3, t2, ← s4, tE _ _ i4 (hr _ (nx_lt_n s1)).1]
        rw [← s4] at t1
        rintro (z | ⟨z1, z2⟩ | ⟨z1, z2⟩ | ⟨z1, z2⟩)
        · exact hno s s1 z
        · exact t1 (hinj _ _ s1 hpv z1)
        · exact s2 (hinj _ _ s1 hk z1)
        · have y1 := hinj _ _ s1 hnx z1
          have y2 := hinj _ _ (nx_lt_n s1) hpv z2
          rw [y1] at y2
          exact k4 y2
      · rw [← s4] at t1
        rw [s3, t2, t1, tE _ _ a4 c4]
        rintro (z | ⟨z1, z2⟩ | ⟨z1, z2⟩ | ⟨z1, z2⟩)
        · exact tac z
        · exact nbc z2.symm
        · exact nab z1
        · exact nca z2
    · intro g hg
      have q1 := hsg g hg
      have q2 := st.2.2.2.2.2.2.1 g hg
      have q3 : T'.Sg g = P.Sg g := by rw [e]; rfl
      have q4 : sumR (n - 1) (fun i => g (T'.rr i) (T'.rr (nx (n - 1) i))) = sumR (n - 1) (fun i => g (rmv T.rr k i) (rmv T.rr k (nx (n - 1) i))) := sumR_congr (fun i hi => by rw [er i hi, er _ (nx_lt_n hi)])
      rw [q3, q2, q4, sumR_rmv g T.rr (by omega) hk]
      have := hg (T.rr (pvx n k)) (T.rr (nx n k))
      show T.Sg g + (g (T.rr (pvx n k)) (T.rr k) + g (T.rr k) (T.rr (nx n k)) + g (T.rr (nx n k)) (T.rr (pvx n k))) + _ = _
      omega
    · have q2 := st.2.2.2.2.2.2.2.1
      have q3 : T'.SgT (fun _ _ _ => 1) = P.SgT (fun _ _ _ => 1) := by rw [e]; rfl
      rw [q3, q2]
      omega
    · intro x y hx2 hy2
      rw [star x y hx2 hy2, star y x hy2 hx2, ← hone x y hx2 hy2]
      have clean : ∀ x y : Nat, eU (T.rr (pvx n k)) (T.rr (nx n k)) x y → ¬ (T.E x y ∨ hE T.rr n x y) ∧ eU (T.rr (pvx n k)) (T.rr (nx n k)) y x := by
        rintro x y (⟨r1, r2⟩ | ⟨r1, r2⟩)
        · rw [r1, r2]; exact ⟨fun z => z.elim tac hac, Or.inr ⟨rfl, rfl⟩⟩
        · rw [r1, r2]; exact ⟨fun z => z.elim tca hca, Or.inl ⟨rfl, rfl⟩⟩
      constructor
      · rintro ⟨z1 | z1, z2⟩
        · exact ⟨z1, fun q => z2 (Or.inl q)⟩
        · exact absurd (Or.inr (clean x y z1).2) z2
      · rintro ⟨z1, z2⟩
        exact ⟨Or.inl z1, fun q => q.elim z2 (fun w => (clean x y (clean y x w).2).1 z1)⟩
    · intro x y hx2 hy2 n1 n2 z
      exact (star x y hx2 hy2).mpr (Or.inl (hal x y hx2 hy2 n1 n2 z))
    · intro i j hi hj z
      obtain ⟨s, s1, s2, s3, s4⟩ := idx i hi
      obtain ⟨t, t1, t2, t3, t4⟩ := idx j hj
      rw [s3, t3] at z ⊢
      rcases (tE _ _ (hr s s1).1 (hr t t1).1).mp z with z | z | z | z
      · rcases hD s t s1 t1 z with q | q | q
        · exact Or.inl q
        · right; left
          rw [s4, t4] at q
          rw [s4] at s2
          rw [t4] at t2
          unfold nx at *
          (repeat' split at q) <;> (repeat' split) <;> omega
        · right; right
          rw [s4, t4] at q
          rw [s4] at s2
          rw [t4] at t2
          unfold nx at *
          (repeat' split at q) <;> (repeat' split) <;> omega
      · exact absurd (hinj _ _ t1 hk z.2) t2
      · exact absurd (hinj _ _ s1 hk z.1) s2
      · right; right
        have y1 := hinj _ _ s1 hnx z.1
        have y2 := hinj _ _ t1 hpv z.2
        rw [s4] at y1
        rw [t4] at y2
        unfold nx pvx at *
        (repeat' split at y1) <;> (repeat' split at y2) <;> (repeat' split) <;> omega
  · exfalso
    obtain ⟨i, hi, he⟩ := St.hole_ear hH
    exact hnone i hi ((St.earAt_W hx hy hi hinj).mpr he)
