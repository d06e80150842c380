/-! TWO MESHES OF ONE SHEET: they answer alike. By hand. -/
theorem Rel.lu_free {S : St} {X : Sh} (h : Rel S X) : S.lu = X.free := by
  have key : ∀ n p : Nat, p + n ≤ 40 → S.luF n p = X.frF n p := by
    intro n
    induction n with
    | zero => intro p _; rfl
    | succ n ih =>
      intro p hp
      by_cases sp : S.has p
      · rw [St.luF_neg sp, Sh.frF_s (h.pt (by omega) sp)]
        exact ih (p + 1) (by omega)
      · rw [St.luF_pos sp, Sh.frF_n (h.no (by omega) sp)]
  exact key 36 4 (by decide)
theorem Rel.atP_at {S : St} {X : Sh} (h : Rel S X) (x y : Int) : S.atP x y = X.at x y := by
  have key : ∀ n p : Nat, p + n ≤ 40 → S.atF x y n p = X.atF x y n p := by
    intro n
    induction n with
    | zero => intro p _; rfl
    | succ n ih =>
      intro p hp
      by_cases sp : S.has p
      · have e := h.pt (show p < 40 by omega) sp
        by_cases c : S.xs p = x ∧ S.ys p = y
        · rw [St.atF_pos sp c.1 c.2, Sh.atF_y ((Sh.isAt_s e).mpr c)]
        · rw [St.atF_neg (fun z => c z.2), Sh.atF_n (fun z => c ((Sh.isAt_s e).mp z))]
          exact ih (p + 1) (by omega)
      · rw [St.atF_neg (fun z => sp z.1), Sh.atF_n (Sh.isAt_n (h.no (by omega) sp))]
        exact ih (p + 1) (by omega)
  exact key 40 0 (by decide)
theorem Rel.takes_iff {S : St} {X : Sh} (h : Rel S X) {x y : Int} : S.takes x y ↔ inSq x y ∧ 0 ≤ X.free ∧ X.at x y < 0 := by
  unfold St.takes
  rw [h.lu_free, h.atP_at]
  have f := X.free_ok
  have g := X.at_ok x y
  constructor
  · rintro ⟨z1, z2, z3⟩
    refine ⟨z1, ?_, by omega⟩
    rcases f with ⟨f, -⟩ | ⟨q, -, -, f, -⟩ <;> omega
  · rintro ⟨z1, z2, z3⟩
    refine ⟨z1, ?_, by omega⟩
    rcases g with ⟨g, -⟩ | ⟨q, -, g, -⟩ <;> omega
/-- a point told, to the sheet and to its mesh -/
theorem Rel.tell {S R : St} {X : Sh} (h : Rel S X) (hS : S.Ok) {p : Nat} {x y : Int} (hlu : S.lu = (p : Int)) (hl : S.laid R p x y) (hr : (S.u_hs (uZ S.hs p 0)).rst R) : Rel R (X.lays p x y 0) := by
  obtain ⟨q, q1, q2, q3, q4, -⟩ := St.lu_ok (S := S) (by omega)
  have e : q = p := by omega
  subst e
  obtain ⟨r1, -, -, r4, r5⟩ := hr
  have r1 : R.hs = uZ S.hs q 0 := r1
  exact Rel.lays h hS.M q3 q4 hl (by rw [r1, uZ_at]) (fun j hj => by rw [r1, uZ_ne hj]) r4 r5
/-- told alike -/
def eqv (S T : St) : Prop := (∀ p : Nat, p < 40 → (T.has p ↔ S.has p)) ∧ (∀ p : Nat, p < 40 → S.has p → T.xs p = S.xs p ∧ T.ys p = S.ys p ∧ T.hs p = S.hs p) ∧ (∀ u v : Nat, u < 40 → v < 40 → (T.bound u v ↔ S.bound u v)) ∧ T.hn = S.hn ∧ T.g = S.g
theorem eqv_of {S T : St} {X : Sh} (hS : Rel S X) (hT : Rel T X) : eqv S T := by
  refine ⟨fun p hp => (hT.1 p hp).symm.trans (hS.1 p hp), fun p hp sp => ?_, fun u v hu hv => ?_, hT.2.2.2.1.symm.trans hS.2.2.2.1, hT.2.2.2.2.symm.trans hS.2.2.2.2⟩
  · have tp : T.has p := (hT.1 p hp).mp ((hS.1 p hp).mpr sp)
    obtain ⟨a1, a2, a3⟩ := hS.2.1 p hp sp
    obtain ⟨b1, b2, b3⟩ := hT.2.1 p hp tp
    exact ⟨b1.symm.trans a1, b2.symm.trans a2, b3.symm.trans a3⟩
  · have e := (hT.2.2.1 u v hu hv).symm.trans (hS.2.2.1 u v hu hv)
    have a := @St.how_0 T u v
    have b := @St.how_0 S u v
    rw [e] at a
    constructor
    · intro z
      exact Classical.byContradiction (fun n => a.mp (b.mpr n) z)
    · intro z
      exact Classical.byContradiction (fun n => b.mp (a.mpr n) z)
theorem eqv_rel {S T : St} (h : eqv S T) (hS : S.Ok) {X : Sh} (hR : Rel S X) : Rel T X := by
  obtain ⟨h1, h2, h3, h4, h5⟩ := h
  refine ⟨fun p hp => (hR.1 p hp).trans (h1 p hp).symm, fun p hp tp => ?_, fun p q hp hq => ?_, hR.2.2.2.1.trans h4.symm, hR.2.2.2.2.trans h5.symm⟩
  · have sp := (h1 p hp).mp tp
    obtain ⟨a1, a2, a3⟩ := hR.2.1 p hp sp
    obtain ⟨b1, b2, b3⟩ := h2 p hp sp
    exact ⟨a1.trans b1.symm, a2.trans b2.symm, a3.trans b3.symm⟩
  · rw [hR.2.2.1 p q hp hq]
    refine (St.how_eq (h3 p q hp hq) (fun hb => ?_)).symm
    obtain ⟨-, sp, sq, -⟩ := hS.M.2.1.1 p q hp hq hb
    have ep := h2 p hp sp
    have eq := h2 q hq sq
    rw [onside_of ⟨ep.1, ep.2.1⟩ ⟨eq.1, eq.2.1⟩, onside_of ⟨eq.1, eq.2.1⟩ ⟨ep.1, ep.2.1⟩]
theorem eqv_ap {S T : St} (h : eqv S T) (hS : S.Ok) (hT : T.Ok) : ∀ e : Nat, e < 1600 → T.ap e = S.ap e := St.cong_uniq hS.M hT.M hS.1.2.1 hT.1.2.1 h.1 (fun p hp sp => ⟨(h.2.1 p hp sp).1, (h.2.1 p hp sp).2.1⟩) h.2.2.1
theorem eqv_nr {S T : St} (h : eqv S T) (hS : S.Ok) (hT : T.Ok) {u v : Nat} (hu : u < 40) (hv : v < 40) : T.nr u v ↔ S.nr u v := by
  have e1 := eqv_ap h hS hT (u * 40 + v) (by omega)
  have e2 := eqv_ap h hS hT (v * 40 + u) (by omega)
  refine (St.near_E hT.M.1.PM hT.2.1 hu hv).trans (Iff.trans ?_ (St.near_E hS.M.1.PM hS.2.1 hu hv).symm)
  unfold St.E
  rw [e1, e2]
theorem eqv_tl {S T : St} (h : eqv S T) (hS : S.Ok) (hT : T.Ok) : T.tl 1600 = S.tl 1600 := by
  unfold St.tl
  refine List.filter_congr (fun e he => ?_)
  have he : e < 1600 := List.mem_range.mp he
  have hiff : T.isTri e ↔ S.isTri e := by
    unfold St.isTri
    rw [eqv_ap h hS hT e he, h.1 (e / 40) (by omega)]
  by_cases z : S.isTri e
  · rw [@decide_eq_true _ (Classical.propDecidable _) z, @decide_eq_true _ (Classical.propDecidable _) (hiff.mpr z)]
  · rw [@decide_eq_false _ (Classical.propDecidable _) z, @decide_eq_false _ (Classical.propDecidable _) (fun y => z (hiff.mp y))]
theorem eqv_tn {S T : St} (h : eqv S T) (hS : S.Ok) (hT : T.Ok) : T.tn = S.tn := by
  have e1 : T.tn = ((T.tl 1600).length : Int) := hT.2.2.1.1.1
  have e2 : S.tn = ((S.tl 1600).length : Int) := hS.2.2.1.1.1
  rw [e1, e2, eqv_tl h hS hT]
theorem eqv_cn {S T : St} (h : eqv S T) (hS : S.Ok) (hT : T.Ok) {N : Nat} (hN : S.tn = (N : Int)) {t k : Nat} (ht : t < N) (hk : k < 3) : T.cn t k = S.cn t k ∧ S.cn t k < 40 ∧ S.has (S.cn t k) := by
  obtain ⟨a, b, c, k1⟩ := hS.tri3 hN ht
  obtain ⟨a', b', c', k2⟩ := hT.tri3 ((eqv_tn h hS hT).trans hN) ht
  have r1 := k1.2.2.2.2.2.2.2
  have r2 := k2.2.2.2.2.2.2.2
  rw [eqv_tl h hS hT, r1] at r2
  have r2 := Option.some.inj r2
  obtain ⟨⟨ha, hb, hc⟩, -, ⟨e0, e1, e2⟩, ⟨sa, sb, sc⟩, -, ⟨f1, -, -⟩, -⟩ := k1
  obtain ⟨⟨ha', hb', hc'⟩, -, ⟨e0', e1', e2'⟩, -, -, ⟨f1', -, -⟩, -⟩ := k2
  have ea : a' = a := by omega
  have eb : b' = b := by omega
  subst ea eb
  rw [eqv_ap h hS hT _ (by omega), f1] at f1'
  have ec : c' = c := by omega
  subst ec
  have : k = 0 ∨ k = 1 ∨ k = 2 := by omega
  rcases this with rfl | rfl | rfl
  · rw [e0, e0']; exact ⟨rfl, ha, sa⟩
  · rw [e1, e1']; exact ⟨rfl, hb, sb⟩
  · rw [e2, e2']; exact ⟨rfl, hc, sc⟩
theorem eqv_qs {S T : St} (h : eqv S T) (hS : S.Ok) (hT : T.Ok) {N : Nat} (hN : S.tn = (N : Int)) {t k : Nat} (ht : t < N) (hk : k < 3) : T.qs t k = S.qs t k := by
  obtain ⟨e1, l1, s1⟩ := eqv_cn h hS hT hN ht hk
  obtain ⟨e2, l2, s2⟩ := eqv_cn h hS hT hN ht (show (k + 1) % 3 < 3 by omega)
  obtain ⟨x1, y1, -⟩ := h.2.1 _ l1 s1
  obtain ⟨x2, y2, -⟩ := h.2.1 _ l2 s2
  unfold St.qs St.sq
  rw [e1, e2, x1, y1, x2, y2]
theorem eqv_ar {S T : St} (h : eqv S T) (hS : S.Ok) (hT : T.Ok) {N : Nat} (hN : S.tn = (N : Int)) {t : Nat} (ht : t < N) : T.ar t = S.ar t := by
  obtain ⟨e0, l0, s0⟩ := eqv_cn h hS hT hN ht (show 0 < 3 by decide)
  obtain ⟨e1, l1, s1⟩ := eqv_cn h hS hT hN ht (show 1 < 3 by decide)
  obtain ⟨e2, l2, s2⟩ := eqv_cn h hS hT hN ht (show 2 < 3 by decide)
  unfold St.ar
  rw [e0, e1, e2]
  have q0 := h.2.1 _ l0 s0
  have q1 := h.2.1 _ l1 s1
  have q2 := h.2.1 _ l2 s2
  exact St.sd3_at ⟨q0.1, q0.2.1⟩ ⟨q1.1, q1.2.1⟩ ⟨q2.1, q2.2.1⟩
theorem eqv_lgs {S T : St} (h : eqv S T) (hS : S.Ok) (hT : T.Ok) {N : Nat} (hN : S.tn = (N : Int)) {t : Nat} (ht : t < N) : T.lgs t = S.lgs t := by
  unfold St.lgs
  rw [eqv_qs h hS hT hN ht (show 0 < 3 by decide), eqv_qs h hS hT hN ht (show 1 < 3 by decide), eqv_qs h hS hT hN ht (show 2 < 3 by decide)]
theorem eqv_lq {S T : St} (h : eqv S T) (hS : S.Ok) (hT : T.Ok) {N : Nat} (hN : S.tn = (N : Int)) {t : Nat} (ht : t < N) : T.lq t = S.lq t := by
  unfold St.lq
  rw [eqv_lgs h hS hT hN ht, eqv_qs h hS hT hN ht (S.lgs_lt t)]
theorem eqv_thF {S T : St} (h : eqv S T) (hS : S.Ok) (hT : T.Ok) {N : Nat} (hN : S.tn = (N : Int)) : ∀ n t b : Nat, t + n ≤ N → b < N → T.thF n t b = S.thF n t b := by
  intro n
  induction n with
  | zero => intro t b _ _; rfl
  | succ n ih =>
    intro t b ht hb
    have e1 := eqv_ar h hS hT hN (show t < N by omega)
    have e2 := eqv_ar h hS hT hN hb
    have e3 := eqv_lq h hS hT hN (show t < N by omega)
    have e4 := eqv_lq h hS hT hN hb
    by_cases c : S.ar t * S.lq b < S.ar b * S.lq t
    · rw [St.thF_y c, St.thF_y (by rw [e1, e2, e3, e4]; exact c)]
      exact ih (t + 1) t (by omega) (by omega)
    · rw [St.thF_n c, St.thF_n (by rw [e1, e2, e3, e4]; exact c)]
      exact ih (t + 1) b (by omega) hb
theorem eqv_rf {S T : St} (h : eqv S T) (hS : S.Ok) (hT : T.Ok) : T.rfX = S.rfX ∧ T.rfY = S.rfY := by
  obtain ⟨N, hN, -, hN0⟩ := hS.T0
  have hTn := eqv_tn h hS hT
  have e0 : S.tn.toNat = N := by rw [hN]; rfl
  have hth := eqv_thF h hS hT hN (N - 1) 1 0 (by omega) hN0
  have hlt : S.thF (N - 1) 1 0 < N := by rcases S.thF_lt (N - 1) 1 0 (by decide) with z | z <;> omega
  have hlg := eqv_lgs h hS hT hN hlt
  have hA : T.rfA = S.rfA := by
    unfold St.rfA
    rw [hTn, e0, hth, hlg]
    exact (eqv_cn h hS hT hN hlt (S.lgs_lt _)).1
  have hB : T.rfB = S.rfB := by
    unfold St.rfB
    rw [hTn, e0, hth, hlg]
    exact (eqv_cn h hS hT hN hlt (by omega)).1
  have cA : S.rfA < 40 ∧ S.has S.rfA := by
    unfold St.rfA
    rw [e0]
    exact (eqv_cn h hS hT hN hlt (S.lgs_lt _)).2
  have cB : S.rfB < 40 ∧ S.has S.rfB := by
    unfold St.rfB
    rw [e0]
    exact (eqv_cn h hS hT hN hlt (by omega)).2
  unfold St.rfX St.rfY
  rw [hA, hB, (h.2.1 _ cA.1 cA.2).1, (h.2.1 _ cA.1 cA.2).2.1, (h.2.1 _ cB.1 cB.2).1, (h.2.1 _ cB.1 cB.2).2.1]
  exact ⟨rfl, rfl⟩
/-- two meshes of one sheet, refined alike -/
theorem refR_two : ∀ (n : Nat) {S T : St} {X : Sh} {c : Nat} {S' T' : St} {c1 c2 : Nat}, Rel S X → Rel T X → S.Ok → T.Ok → refR n S c S' c1 → refR n T c T' c2 → c1 = c2 ∧ ∀ X' : Sh, Rel T' X' → Rel S' X' := by
  intro n
  induction n with
  | zero =>
    intro S T X c S' T' c1 c2 hS hT oS oT h1 h2
    obtain ⟨rfl, rfl⟩ := h1
    obtain ⟨rfl, rfl⟩ := h2
    exact ⟨rfl, fun X' h => eqv_rel (eqv_of hT hS) oT h⟩
  | succ n ih =>
    intro S T X c S' T' c1 c2 hS hT oS oT h1 h2
    have hrf := eqv_rf (eqv_of hS hT) oS oT
    have htk : T.takes T.rfX T.rfY ↔ S.takes S.rfX S.rfY := by rw [hrf.1, hrf.2, hT.takes_iff, hS.takes_iff]
    rcases h1 with ⟨a1, S1, o1, ⟨p, p1, p2, p3⟩, a2⟩ | ⟨a1, rfl, rfl⟩
    · rcases h2 with ⟨b1, T1, o2, ⟨q, q1, q2, q3⟩, b2⟩ | ⟨b1, rfl, rfl⟩
      · have epq : q = p := by
          have := hS.lu_free
          have := hT.lu_free
          omega
        subst epq
        have r1 := hS.tell oS p1 p2 p3
        have r2 := hT.tell oT q1 q2 q3
        rw [hrf.1, hrf.2] at r2
        exact ih r1 r2 o1 o2 a2 b2
      · exact absurd (htk.mpr a1) b1
    · rcases h2 with ⟨b1, -⟩ | ⟨b1, rfl, rfl⟩
      · exact absurd (htk.mp b1) a1
      · exact ⟨rfl, fun X' h => eqv_rel (eqv_of hT hS) oT h⟩
