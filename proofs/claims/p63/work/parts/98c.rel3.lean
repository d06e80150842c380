/-! A STATE AND A SHEET THAT SAY THE SAME: the other changes; who sees whom. By hand. -/
theorem Rel.drop {S R : St} {X : Sh} (h : Rel S X) {p : Nat} (hp : p < 40) (hx : R.xs = S.xs) (hy : R.ys = S.ys) (ht : R.th = bClr S.th p) (hf : R.fx = S.fx) (hr : S.rst R) : Rel R (X.uP p none) := by
  have hh : ∀ k : Nat, R.has k ↔ S.has k ∧ k ≠ p := fun k => by
    unfold St.has
    rw [ht, bt_clr (by omega), Bool.and_eq_true]
    simp
  refine ⟨fun k hk => ?_, fun k hk sk => ?_, fun u v hu hv => ?_, by rw [hr.2.2.2.1]; exact h.2.2.2.1, by rw [hr.2.2.2.2]; exact h.2.2.2.2⟩
  · rw [hh k]
    by_cases c : k = p
    · rw [c, Sh.uP_at]
      exact ⟨fun z => (by cases z), fun z => absurd rfl z.2⟩
    · rw [Sh.uP_ne X _ c]
      exact ⟨fun z => ⟨(h.1 k hk).mp z, c⟩, fun z => (h.1 k hk).mpr z.1⟩
  · obtain ⟨s1, c⟩ := (hh k).mp sk
    obtain ⟨a1, a2, a3⟩ := Sh.c_ne X none c
    rw [a1, a2, a3, hx, hy, hr.1]
    exact h.2.1 k hk s1
  · show X.2.1 u v = _
    rw [h.2.2.1 u v hu hv]
    symm
    refine St.how_eq (by unfold St.bound; rw [hf]) (fun _ => ?_)
    unfold St.onside
    rw [hx, hy]
theorem Rel.same {S R : St} {X Y : Sh} (h : Rel S X) (hx : R.xs = S.xs) (hy : R.ys = S.ys) (ht : R.th = S.th) (hr : S.rst R) (e1 : Y.1 = X.1) (e2 : Y.2.2 = X.2.2) (e3 : ∀ u v : Nat, u < 40 → v < 40 → Y.2.1 u v = R.how u v) : Rel R Y := by
  refine ⟨fun k hk => ?_, fun k hk sk => ?_, e3, by rw [e2, hr.2.2.2.1]; exact h.2.2.2.1, by rw [e2, hr.2.2.2.2]; exact h.2.2.2.2⟩
  · rw [e1]
    unfold St.has
    rw [ht]
    exact h.1 k hk
  · have sk' : S.has k := by unfold St.has at *; rw [ht] at sk; exact sk
    have := h.2.1 k hk sk'
    unfold Sh.cx Sh.cy Sh.cz at *
    rw [e1, hx, hy, hr.1]
    exact this
theorem Rel.fix {S R : St} {X : Sh} (h : Rel S X) {p q : Nat} (hx : R.xs = S.xs) (hy : R.ys = S.ys) (ht : R.th = S.th) (hb : ∀ u v : Nat, R.bound u v ↔ S.bound u v ∨ eU p q u v) (hr : S.rst R) (hno : ¬ (S.onside p q ∨ S.onside q p)) : Rel R (X.fixes p q 1) := by
  have ho : ∀ u v : Nat, R.onside u v ↔ S.onside u v := fun u v => by unfold St.onside; rw [hx, hy]
  refine h.same hx hy ht hr rfl rfl (fun u v hu hv => ?_)
  rw [Sh.fixes_at]
  by_cases c : (u = p ∧ v = q) ∨ (u = q ∧ v = p)
  · rw [if_pos c]
    symm
    rw [St.how_1]
    refine ⟨(hb u v).mpr (Or.inr c), fun z => hno ?_⟩
    rw [ho u v, ho v u] at z
    rcases c with ⟨rfl, rfl⟩ | ⟨rfl, rfl⟩
    · exact z
    · exact z.symm
  · rw [if_neg c, h.2.2.1 u v hu hv]
    symm
    refine St.how_eq ?_ (fun _ => by rw [ho u v, ho v u])
    rw [hb u v]
    exact ⟨fun z => z.elim id (fun z => absurd z c), Or.inl⟩
theorem Rel.free {S R : St} {X : Sh} (h : Rel S X) {p q : Nat} (hx : R.xs = S.xs) (hy : R.ys = S.ys) (ht : R.th = S.th) (hb : ∀ u v : Nat, R.bound u v ↔ S.bound u v ∧ ¬ eU p q u v) (hr : S.rst R) : Rel R (X.fixes p q 0) := by
  have ho : ∀ u v : Nat, R.onside u v ↔ S.onside u v := fun u v => by unfold St.onside; rw [hx, hy]
  refine h.same hx hy ht hr rfl rfl (fun u v hu hv => ?_)
  rw [Sh.fixes_at]
  by_cases c : (u = p ∧ v = q) ∨ (u = q ∧ v = p)
  · rw [if_pos c]
    symm
    rw [St.how_0, hb u v]
    exact fun z => z.2 c
  · rw [if_neg c, h.2.2.1 u v hu hv]
    symm
    refine St.how_eq ?_ (fun _ => by rw [ho u v, ho v u])
    rw [hb u v]
    exact ⟨fun z => z.1, fun z => ⟨z, c⟩⟩
theorem Rel.height {S : St} {X : Sh} (h : Rel S X) {p : Nat} {z : Int} (sp : S.has p) : Rel (S.u_hs (uZ S.hs p z)) (X.uP p (some (S.xs p, S.ys p, z))) := by
  refine ⟨fun k hk => ?_, fun k hk sk => ?_, fun u v hu hv => (h.2.2.1 u v hu hv), h.2.2.2.1, h.2.2.2.2⟩
  · by_cases c : k = p
    · rw [c, Sh.uP_at]
      exact ⟨fun _ => sp, fun _ => rfl⟩
    · rw [Sh.uP_ne X _ c]
      exact h.1 k hk
  · show _ = S.xs k ∧ _ = S.ys k ∧ _ = uZ S.hs p z k
    by_cases c : k = p
    · subst c
      obtain ⟨a1, a2, a3⟩ := Sh.c_at X k (S.xs k) (S.ys k) z
      rw [a1, a2, a3, uZ_at]
      exact ⟨rfl, rfl, rfl⟩
    · obtain ⟨a1, a2, a3⟩ := Sh.c_ne X (some (S.xs p, S.ys p, z)) c
      rw [a1, a2, a3, uZ_ne c]
      exact h.2.1 k hk sk
theorem Rel.uG {S : St} {X : Sh} (h : Rel S X) (g : Int) : Rel (S.u_g g) (X.uG g) := ⟨h.1, h.2.1, h.2.2.1, h.2.2.2.1, rfl⟩
theorem Rel.holes {S : St} {X : Sh} (h : Rel S X) (f1 f2 : Nat → Int) (n : Nat) : Rel (((S.u_hx f1).u_hy f2).u_hn (n : Int)) (X.1, X.2.1, n, X.2.2.2) := ⟨h.1, h.2.1, h.2.2.1, rfl, h.2.2.2.2⟩
theorem Rel.hn {S : St} {X : Sh} (h : Rel S X) (n : Nat) : Rel (S.u_hn (n : Int)) (X.1, X.2.1, n, X.2.2.2) := ⟨h.1, h.2.1, h.2.2.1, rfl, h.2.2.2.2⟩
theorem St.cut_crs {S : St} {p q i j : Nat} : crs2 (S.xs p) (S.ys p) (S.xs q) (S.ys q) (S.xs i) (S.ys i) (S.xs j) (S.ys j) ↔ S.cut i j (S.xs p) (S.ys p) (S.xs q) (S.ys q) := by
  unfold crs2 St.cut
  constructor
  · rintro ⟨h1, h2⟩; exact ⟨h2, h1⟩
  · rintro ⟨h1, h2⟩; exact ⟨h2, h1⟩
theorem Rel.seen {S : St} {X : Sh} (h : Rel S X) (hS : S.Ok) {p q E : Nat} (hp : p < 40) (hq : q < 40) (sp : S.has p) (sq : S.has q) (hE : S.ec = (E : Int)) (hE2 : E ≤ 113) : X.sees p q ↔ S.sightP p q 40 ∧ S.sightE p q E := by
  obtain ⟨p1, p2, -⟩ := h.2.1 p hp sp
  obtain ⟨q1, q2, -⟩ := h.2.1 q hq sq
  unfold Sh.sees
  rw [p1, p2, q1, q2]
  have Fx := hS.M.2.1
  constructor
  · rintro ⟨h1, h2⟩
    refine ⟨fun k hk z => ?_, fun t ht z => ?_⟩
    · obtain ⟨a1, a2, -⟩ := h.2.1 k hk z.1
      refine h1 k hk ⟨(h.1 k hk).mpr z.1, ?_⟩
      rw [a1, a2]
      exact St.bt2_btw.mp z.2
    · obtain ⟨z1, z2⟩ := z
      have l1 := St.e1_lt hS.I.CN.2 (e := t) (by omega)
      have l2 := St.e2_lt hS.I.CN.2 (e := t) (by omega)
      have one : ∀ i j : Nat, i < 40 → j < i → S.bound i j → S.cut i j (S.xs p) (S.ys p) (S.xs q) (S.ys q) → False := fun i j hi hj hb hc => by
        obtain ⟨-, si, sj, -⟩ := Fx.1 i j hi (by omega) hb
        obtain ⟨a1, a2, -⟩ := h.2.1 i hi si
        obtain ⟨b1, b2, -⟩ := h.2.1 j (by omega) sj
        refine h2 i hi j hj ⟨by rw [h.2.2.1 i j hi (by omega)]; exact fun e => St.how_0.mp e hb, ?_⟩
        rw [a1, a2, b1, b2]
        exact St.cut_crs.mpr hc
      rcases Nat.lt_trichotomy (S.e1 t) (S.e2 t) with c | c | c
      · exact one _ _ l2 c (Fx.1 _ _ l1 l2 z1).1 (St.cut_sym z2)
      · rw [c] at z2
        obtain ⟨w, -⟩ := z2
        have : S.sd (S.e2 t) (S.e2 t) (S.xs p) (S.ys p) = 0 := by unfold St.sd; grind
        unfold opp at w
        omega
      · exact one _ _ l1 c z1 z2
  · rintro ⟨h1, h2⟩
    refine ⟨fun k hk z => ?_, fun i hi j hj z => ?_⟩
    · have sk := (h.1 k hk).mp z.1
      obtain ⟨a1, a2, -⟩ := h.2.1 k hk sk
      have z2 := z.2
      rw [a1, a2] at z2
      exact h1 k hk ⟨sk, St.bt2_btw.mpr z2⟩
    · obtain ⟨z1, z2⟩ := z
      rw [h.2.2.1 i j hi (by omega)] at z1
      have hb : S.bound i j := Classical.byContradiction (fun e => z1 (St.how_0.mpr e))
      obtain ⟨hbs, si, sj, hEd⟩ := Fx.1 i j hi (by omega) hb
      obtain ⟨a1, a2, -⟩ := h.2.1 i hi si
      obtain ⟨b1, b2, -⟩ := h.2.1 j (by omega) sj
      rw [a1, a2, b1, b2] at z2
      have hc := St.cut_crs.mp z2
      obtain ⟨t, ht, e1, e2⟩ := St.row_E hS.2.1 hE hi (show j < 40 by omega) hj sj hEd.symm
      exact h2 t ht (by rw [e1, e2]; exact ⟨hbs, St.cut_sym hc⟩)
theorem line_btw {x1 y1 x2 y2 x y : Int} (h : (y1 = y ∧ y2 = y ∧ ((x1 < x ∧ x < x2) ∨ (x2 < x ∧ x < x1))) ∨ (x1 = x ∧ x2 = x ∧ ((y1 < y ∧ y < y2) ∨ (y2 < y ∧ y < y1)))) : btw2 x1 y1 x2 y2 x y := by
  unfold btw2 zmin zmax sd2
  rcases h with ⟨rfl, e2, h⟩ | ⟨rfl, e2, h⟩
  · rw [e2, Int.sub_self, Int.mul_zero, Int.zero_mul]
    refine ⟨rfl, ⟨?_, ?_, ?_, ?_⟩, ?_, ?_⟩
    · split <;> omega
    · split <;> omega
    · split <;> omega
    · split <;> omega
    · omega
    · omega
  · rw [e2, Int.sub_self, Int.mul_zero, Int.zero_mul]
    refine ⟨rfl, ⟨?_, ?_, ?_, ?_⟩, ?_, ?_⟩
    · split <;> omega
    · split <;> omega
    · split <;> omega
    · split <;> omega
    · omega
    · omega
/-- two points of one side that see one another are bound already -/
theorem St.side_bound {S : St} (hM : S.Msh) {p q : Nat} (hp : p < 40) (hq : q < 40) (sp : S.has p) (sq : S.has q) (ho : S.onside p q) (hP : S.sightP p q 40) : S.bound p q := by
  have hG := hM.1
  obtain ⟨hinB, hdi, hA, hcy, hpo, hcv, hbd, hbn, hal⟩ := id hG
  have oB : S.onB p := by unfold St.onside at ho; unfold St.onB; omega
  obtain ⟨v, hv, v1, v2⟩ := hbn p hp sp oB
  have hov := hbd p v hp hv v1 v2
  have sv : S.has v := (St.E_has hG.PM hp hv v1).2
  have bpv := hM.2.1.2 p v hp hv v1 v2
  by_cases c : v = q
  · subst c; exact bpv
  · exfalso
    have ip := hinB p hp
    have iq := hinB q hq
    have iv := hinB v hv
    have hne : ¬ (S.xs v = S.xs q ∧ S.ys v = S.ys q) := fun z => c (hdi v q hv hq sv sq z.1 z.2)
    have far : btw2 (S.xs p) (S.ys p) (S.xs q) (S.ys q) (S.xs v) (S.ys v) → False := fun z => hP v hv ⟨sv, St.bt2_btw.mpr z⟩
    have near : btw2 (S.xs p) (S.ys p) (S.xs v) (S.ys v) (S.xs q) (S.ys q) → False := fun z => St.on_edge hG hp hv hq sq (Or.inl v1) (St.bt2_btw.mpr z)
    rcases ho with ⟨a1, a2, a3⟩ | ⟨a1, a2, a3⟩ | ⟨a1, a2, a3⟩ | ⟨a1, a2, a3⟩ <;> rcases hov with ⟨b1, b2, b3⟩ | ⟨b1, b2, b3⟩ | ⟨b1, b2, b3⟩ | ⟨b1, b2, b3⟩
    · rcases Int.lt_trichotomy (S.xs v) (S.xs q) with d | d | d
      · exact far (line_btw (Or.inl ⟨by omega, by omega, Or.inl ⟨by omega, by omega⟩⟩))
      · exact hne ⟨d, by omega⟩
      · exact near (line_btw (Or.inl ⟨by omega, by omega, Or.inl ⟨by omega, by omega⟩⟩))
    · omega
    · omega
    · omega
    · omega
    · rcases Int.lt_trichotomy (S.ys v) (S.ys q) with d | d | d
      · exact far (line_btw (Or.inr ⟨by omega, by omega, Or.inl ⟨by omega, by omega⟩⟩))
      · exact hne ⟨by omega, d⟩
      · exact near (line_btw (Or.inr ⟨by omega, by omega, Or.inl ⟨by omega, by omega⟩⟩))
    · omega
    · omega
    · omega
    · omega
    · rcases Int.lt_trichotomy (S.xs v) (S.xs q) with d | d | d
      · exact near (line_btw (Or.inl ⟨by omega, by omega, Or.inr ⟨by omega, by omega⟩⟩))
      · exact hne ⟨d, by omega⟩
      · exact far (line_btw (Or.inl ⟨by omega, by omega, Or.inr ⟨by omega, by omega⟩⟩))
    · omega
    · omega
    · omega
    · omega
    · rcases Int.lt_trichotomy (S.ys v) (S.ys q) with d | d | d
      · exact near (line_btw (Or.inr ⟨by omega, by omega, Or.inr ⟨by omega, by omega⟩⟩))
      · exact hne ⟨by omega, d⟩
      · exact far (line_btw (Or.inr ⟨by omega, by omega, Or.inr ⟨by omega, by omega⟩⟩))
