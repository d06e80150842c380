/-! THE COUNTS of the law are the counts of the object. By hand. -/
noncomputable def cI (P : Prop) : Int := @ite Int P (Classical.propDecidable _) 1 0
theorem cI_y {P : Prop} (h : P) : cI P = 1 := if_pos h
theorem cI_n {P : Prop} (h : ¬ P) : cI P = 0 := if_neg h
theorem cI_iff {P Q : Prop} (h : P ↔ Q) : cI P = cI Q := by
  by_cases p : P
  · rw [cI_y p, cI_y (h.mp p)]
  · rw [cI_n p, cI_n (fun z => p (h.mpr z))]
theorem cI_b (P : Prop) : 0 ≤ cI P ∧ cI P ≤ 1 := by
  by_cases p : P
  · rw [cI_y p]; decide
  · rw [cI_n p]; decide
theorem cntP_sum (P : Nat → Prop) : ∀ n : Nat, cntP P n = sumR n (fun k => cI (P k))
  | 0 => rfl
  | n + 1 => by
    show cntP P n + cI (P n) = sumR n _ + cI (P n)
    rw [cntP_sum P n]
theorem cnt2_sum (P : Nat → Nat → Prop) : ∀ n : Nat, cnt2 P n = sumR n (fun u => sumR u (fun v => cI (P u v)))
  | 0 => rfl
  | n + 1 => by
    show cnt2 P n + cntP (P n) n = sumR n _ + sumR n (fun v => cI (P n v))
    rw [cnt2_sum P n, cntP_sum]
theorem cntF_sum (P : Nat → Prop) : ∀ (n e : Nat) (r : Int), cntF P n e r = r + sumR n (fun k => cI (P (e + k)))
  | 0, _, r => (Int.add_zero r).symm
  | n + 1, e, r => by
    have hs := sumR_split (fun k => cI (P (e + k))) 1 n
    rw [Nat.add_comm 1 n] at hs
    have h1 : sumR 1 (fun k => cI (P (e + k))) = cI (P e) := by
      show 0 + cI (P (e + 0)) = _
      rw [Int.zero_add, Nat.add_zero]
    have h2 : sumR n (fun j => cI (P (e + (1 + j)))) = sumR n (fun j => cI (P (e + 1 + j))) := sumR_congr (fun k _ => by rw [Nat.add_assoc])
    rw [h1] at hs
    by_cases p : P e
    · rw [cntF_y p, cntF_sum P n, hs, h2, cI_y p]; omega
    · rw [cntF_n p, cntF_sum P n, hs, h2, cI_n p]; omega
theorem sumR_list {f : Nat → Int} {F : Nat → Int} : ∀ (l : List Nat) (s : Nat), (∀ t e : Nat, l[t]? = some e → f (s + t) = F e) → sumR l.length (fun t => f (s + t)) = (l.map F).sum
  | [], _, _ => rfl
  | e :: l, s, h => by
    have ih := sumR_list (f := f) (F := F) l (s + 1) (fun t e' he => by
      have := h (t + 1) e' he
      rwa [show s + (t + 1) = s + 1 + t by omega] at this)
    have hs := sumR_split (fun t => f (s + t)) 1 l.length
    rw [Nat.add_comm 1 l.length] at hs
    have h1 : sumR 1 (fun t => f (s + t)) = F e := by
      show 0 + f (s + 0) = _
      rw [Int.zero_add]
      exact h 0 e rfl
    have h2 : sumR l.length (fun j => f (s + (1 + j))) = sumR l.length (fun t => f (s + 1 + t)) := sumR_congr (fun k _ => by rw [Nat.add_assoc])
    rw [h1] at hs
    rw [List.map_cons, List.sum_cons, List.length_cons, hs, h2, ih]
theorem sumR_tail {f : Nat → Int} {n : Nat} (h : ∀ k : Nat, n ≤ k → f k = 0) : ∀ d : Nat, sumR (n + d) f = sumR n f
  | 0 => rfl
  | d + 1 => by
    show sumR (n + d) f + f (n + d) = _
    rw [sumR_tail h d, h _ (by omega), Int.add_zero]
/-- pairs with an edge: counted by pairs, or by the rows of the list -/
theorem St.Ok.cnt2_el {S : St} (h : S.Ok) {E : Nat} (hE : S.ec = (E : Int)) {P : Nat → Nat → Prop} (hP : ∀ u v : Nat, u < 40 → v < u → P u v → S.nr u v) : cnt2 P 40 = cntP (fun t => P (S.e2 t) (S.e1 t)) E := by
  have hl := h.2.1
  have hlen : (S.el 1600).length = E := by have := hl.1.1; omega
  -- the rows
  have hr : sumR E (fun t => cI (P (S.e2 (0 + t)) (S.e1 (0 + t)))) = ((S.el 1600).map (fun e => cI (P (e % 40) (e / 40)))).sum := by
    rw [← hlen]
    refine sumR_list (f := fun t => cI (P (S.e2 t) (S.e1 t))) (F := fun e => cI (P (e % 40) (e / 40))) _ 0 (fun t e he => ?_)
    have hrow := hl.1.2.1 t e he
    have e1 : S.e1 (0 + t) = e / 40 := by
      rw [Nat.zero_add]
      unfold St.e1
      rw [hrow.1, Int.toNat_natCast]
    have e2 : S.e2 (0 + t) = e % 40 := by
      rw [Nat.zero_add]
      unfold St.e2
      rw [hrow.2, Int.toNat_natCast]
    show cI (P (S.e2 (0 + t)) (S.e1 (0 + t))) = _
    rw [e1, e2]
  have hr' : cntP (fun t => P (S.e2 t) (S.e1 t)) E = ((S.el 1600).map (fun e => cI (P (e % 40) (e / 40)))).sum := by
    rw [cntP_sum, ← hr]
    exact sumR_congr (fun k _ => by rw [Nat.zero_add])
  rw [hr']
  unfold St.el
  rw [sum_filter, cnt2_sum]
  -- the pairs
  have e1 : sumR 40 (fun u => sumR u (fun v => cI (P u v))) = sumR 40 (fun u => sumR 40 (fun v => cI (v < u ∧ P u v))) := by
    refine sumR_congr (fun u hu => ?_)
    have a1 : sumR u (fun v => cI (P u v)) = sumR u (fun v => cI (v < u ∧ P u v)) := sumR_congr (fun v hv => cI_iff ⟨fun z => ⟨hv, z⟩, fun z => z.2⟩)
    have a2 := sumR_tail (f := fun v => cI (v < u ∧ P u v)) (n := u) (fun k hk => cI_n (fun z => by omega)) (40 - u)
    rw [show u + (40 - u) = 40 by omega] at a2
    rw [a1, a2]
  rw [e1, sumR_swap]
  have e2 := sumR_grid (fun v u => cI (v < u ∧ P u v)) 40
  rw [show 40 * 40 = 1600 from rfl] at e2
  rw [← e2]
  refine sumR_congr (fun e he => ?_)
  show cI (e / 40 < e % 40 ∧ P (e % 40) (e / 40)) = _
  by_cases z : S.isEdg e
  · rw [if_pos (by exact @decide_eq_true _ (Classical.propDecidable _) z)]
    exact cI_iff ⟨fun y => y.2, fun y => ⟨z.1, y⟩⟩
  · rw [if_neg (fun y => z (@of_decide_eq_true _ (Classical.propDecidable _) y))]
    refine cI_n (fun y => z ⟨y.1, ?_, ?_⟩)
    · exact h.nr (e % 40) (e / 40) (by omega) (by omega) (hP _ _ (by omega) y.1 y.2)
    · rcases (St.near_E h.M.1.PM h.2.1 (show e % 40 < 40 by omega) (show e / 40 < 40 by omega)).mp (hP _ _ (by omega) y.1 y.2) with q | q
      · exact Or.inr q
      · refine Or.inl ?_
        have : S.ap (e / 40 * 40 + e % 40) ≠ -1 := q
        rwa [show e / 40 * 40 + e % 40 = e by omega] at this
theorem St.Ok.row_at {S : St} (h : S.Ok) {E : Nat} (hE : S.ec = (E : Int)) {t : Nat} (ht : t < E) : S.e1 t < S.e2 t ∧ S.e2 t < 40 ∧ (S.E (S.e1 t) (S.e2 t) ∨ S.E (S.e2 t) (S.e1 t)) := by
  have hl := h.2.1
  have hlen : (S.el 1600).length = E := by have := hl.1.1; omega
  obtain ⟨e, he⟩ : ∃ e : Nat, (S.el 1600)[t]? = some e := by
    rcases z : (S.el 1600)[t]? with _ | e
    · rw [List.getElem?_eq_none_iff] at z
      omega
    · exact ⟨e, rfl⟩
  have hrow := hl.1.2.1 t e he
  obtain ⟨m1, m2⟩ := St.el_mem.mp (List.mem_of_getElem? he)
  have e1 : S.e1 t = e / 40 := by
    unfold St.e1
    rw [hrow.1, Int.toNat_natCast]
  have e2 : S.e2 t = e % 40 := by
    unfold St.e2
    rw [hrow.2, Int.toNat_natCast]
  rw [e1, e2]
  refine ⟨m2.1, by omega, ?_⟩
  rcases m2.2.2 with q | q
  · refine Or.inl ?_
    show S.ap _ ≠ -1
    rwa [show e / 40 * 40 + e % 40 = e by omega]
  · exact Or.inr q
theorem cntP_iff {P Q : Nat → Prop} {n : Nat} (h : ∀ k : Nat, k < n → (P k ↔ Q k)) : cntP P n = cntP Q n := cntP_congr h
theorem cntF_P (P : Nat → Prop) (n : Nat) : cntF P n 0 0 = cntP P n := by
  rw [cntF_sum, cntP_sum, Int.zero_add]
  exact sumR_congr (fun k _ => by rw [Nat.zero_add])
theorem St.Ok.c_edges {S : St} (h : S.Ok) {E : Nat} (hE : S.ec = (E : Int)) : cnt2 S.nr 40 = S.ec := by
  rw [h.cnt2_el hE (fun _ _ _ _ z => z), hE, cntP_sum, sumR_congr (g := fun _ => 1) (fun t ht => cI_y ?_), sumR_ones]
  obtain ⟨r1, r2, r3⟩ := h.row_at hE ht
  exact (St.near_E h.M.1.PM h.2.1 r2 (by omega)).mpr r3.symm
theorem St.Ok.bound_sym {S : St} (h : S.Ok) {u v : Nat} (hu : u < 40) (hv : v < 40) : S.bound u v ↔ S.bound v u := ⟨fun z => (h.M.2.1.1 u v hu hv z).1, fun z => (h.M.2.1.1 v u hv hu z).1⟩
theorem St.Ok.c_fixed {S : St} (h : S.Ok) {E : Nat} (hE : S.ec = (E : Int)) : cnt2 S.bound 40 = cntF S.cfP E 0 0 := by
  rw [h.cnt2_el hE (fun u v hu hv z => h.fix_nr hu (by omega) z), cntF_P]
  refine cntP_iff (fun t ht => ?_)
  obtain ⟨r1, r2, -⟩ := h.row_at hE ht
  exact h.bound_sym r2 (by omega)
theorem St.Ok.c_border {S : St} (h : S.Ok) {E : Nat} (hE : S.ec = (E : Int)) : cnt2 (fun u v => S.how u v = 2) 40 = cntF S.cbP E 0 0 := by
  rw [h.cnt2_el hE (fun u v hu hv z => h.fix_nr hu (by omega) (St.how_2.mp z).1), cntF_P]
  refine cntP_iff (fun t ht => ?_)
  obtain ⟨r1, r2, r3⟩ := h.row_at hE ht
  have hone := St.one_iff h.M.1 (show S.e1 t < 40 by omega) r2 r3
  unfold St.cbP
  constructor
  · intro z
    obtain ⟨z1, z2⟩ := St.how_2.mp z
    exact hone.mpr z2.symm
  · intro z
    refine St.how_2.mpr ⟨?_, (hone.mp z).symm⟩
    rcases r3 with q | q
    · have q2 : S.ap (S.e2 t * 40 + S.e1 t) = -1 := Classical.byContradiction (fun y => z ⟨q, y⟩)
      exact (h.bound_sym r2 (by omega)).mpr (h.M.2.1.2 _ _ (by omega) r2 q q2)
    · have q2 : S.ap (S.e1 t * 40 + S.e2 t) = -1 := Classical.byContradiction (fun y => z ⟨y, q⟩)
      exact h.M.2.1.2 _ _ r2 (by omega) q q2
theorem St.Ok.c_bent {S : St} (h : S.Ok) {T : Nat} (hT : S.tn = (T : Int)) {E : Nat} (hE : S.ec = (E : Int)) : cnt2 S.bdP 40 = cntF S.bent E 0 0 := by
  rw [h.cnt2_el hE (fun u v hu hv z => h.fix_nr hu (by omega) (St.how_1.mp z.1).1), cntF_P]
  refine cntP_iff (fun t ht => ?_)
  obtain ⟨r1, r2, r3⟩ := h.row_at hE ht
  have r1' : S.e1 t < 40 := by omega
  have hone := St.one_iff h.M.1 r1' r2 r3
  have key : S.E (S.e1 t) (S.e2 t) → S.E (S.e2 t) (S.e1 t) → (S.alw (S.e2 t) (S.e1 t) (S.ap (S.e2 t * 40 + S.e1 t)).toNat (S.ap (S.e1 t * 40 + S.e2 t)).toNat ↔ S.okE (S.e1 t) (S.e2 t) (S.ap (S.e1 t * 40 + S.e2 t)).toNat (S.ap (S.e2 t * 40 + S.e1 t)).toNat) := by
    intro E1 E2
    obtain ⟨i, a0, b0, c0, r, j, a1, b1, c1, s, ⟨i1, i2, i3, i4, i5, i6⟩, ⟨j1, j2, j3, j4, j5, j6⟩, hhs, hne⟩ := h.pair2 hT r1' r2 E1 E2
    rw [i5, j5, Int.toNat_natCast, Int.toNat_natCast]
    exact (St.alw_sw h.B h.M.1.2.1 ⟨r1', r2, i4, j4⟩ hhs hne).trans (St.okE_alw h.li ⟨r1', r2, i4, j4⟩).symm
  constructor
  · rintro ⟨z1, z2⟩
    obtain ⟨y1, y2⟩ := St.how_1.mp z1
    obtain ⟨E2, E1⟩ := h.two_fix r2 r1' y1 y2
    exact ⟨(h.bound_sym r2 r1').mp y1, ⟨E1, E2⟩, fun q => z2 ((key E1 E2).mpr q)⟩
  · rintro ⟨z1, ⟨E1, E2⟩, z3⟩
    refine ⟨St.how_1.mpr ⟨(h.bound_sym r2 r1').mpr z1, fun q => hone.mpr q.symm ⟨E1, E2⟩⟩, fun q => z3 ((key E1 E2).mp q)⟩
theorem St.Ok.c_points {S : St} (h : S.Ok) : cntP S.has 40 = (bcnt S.th : Int) := (bcnt_40 h.2.2.2.2.2.2.1).symm
theorem St.lq_mx3 (S : St) (t : Nat) : S.lq t = zmaxL (S.qs t 0) (zmaxL (S.qs t 1) (S.qs t 2)) := by
  unfold St.lq St.lgs zmaxL
  (repeat' split) <;> first | rfl | omega
theorem Rel.e2_sq {S : St} {X : Sh} (hR : Rel S X) {p q : Nat} (hp : p < 40) (hq : q < 40) (sp : S.has p) (sq : S.has q) : X.e2 p q = S.sq p q := by
  obtain ⟨a1, a2, -⟩ := hR.2.1 p hp sp
  obtain ⟨b1, b2, -⟩ := hR.2.1 q hq sq
  unfold Sh.e2 St.sq
  rw [a1, a2, b1, b2]
theorem Rel.ex_at {S : St} {X : Sh} (hR : Rel S X) {t a b c : Nat} (k : S.tri3 t a b c) : X.ex S t = 2 * S.lq t - (S.qs t 0 + S.qs t 1 + S.qs t 2) := by
  obtain ⟨⟨ha, hb, hc⟩, -, ⟨e0, e1, e2⟩, ⟨sa, sb, sc⟩, -⟩ := k
  rw [St.lq_mx3]
  unfold Sh.ex Sh.mx St.qs
  rw [show (0 + 1) % 3 = 1 from rfl, show (1 + 1) % 3 = 2 from rfl, show (2 + 1) % 3 = 0 from rfl, e0, e1, e2, hR.e2_sq ha hb sa sb, hR.e2_sq hb hc sb sc, hR.e2_sq hc ha sc sa]
theorem zcmp_m {x y : Int} : zcmp x y = -1 ↔ x < y := by
  unfold zcmp
  (repeat' split) <;> omega
theorem zcmp_z {x y : Int} : zcmp x y = 0 ↔ x = y := by
  unfold zcmp
  (repeat' split) <;> omega
theorem Rel.c_obt {S : St} {X : Sh} (hR : Rel S X) (h : S.Ok) {T : Nat} (hT : S.tn = (T : Int)) : X.obt S T = cntF (S.angP (-1)) T 0 0 := by
  rw [cntF_P]
  have key : ∀ n : Nat, n ≤ T → X.obt S n = cntP (S.angP (-1)) n := by
    intro n
    induction n with
    | zero => intro _; rfl
    | succ n ih =>
      intro hn
      obtain ⟨a, b, c, k⟩ := h.tri3 hT (t := n) (by omega)
      have hx := hR.ex_at k
      show X.obt S n + (if 0 < X.ex S n then 1 else 0) = _
      rw [ih (by omega)]
      by_cases z : S.angP (-1) n
      · rw [cntP_y z, if_pos]
        have := zcmp_m.mp z
        omega
      · rw [cntP_n z, if_neg, Int.add_zero]
        intro y
        refine z (zcmp_m.mpr ?_)
        omega
  exact key T (Nat.le_refl T)
theorem Rel.c_rgt {S : St} {X : Sh} (hR : Rel S X) (h : S.Ok) {T : Nat} (hT : S.tn = (T : Int)) : X.rgt S T = cntF (S.angP 0) T 0 0 := by
  rw [cntF_P]
  have key : ∀ n : Nat, n ≤ T → X.rgt S n = cntP (S.angP 0) n := by
    intro n
    induction n with
    | zero => intro _; rfl
    | succ n ih =>
      intro hn
      obtain ⟨a, b, c, k⟩ := h.tri3 hT (t := n) (by omega)
      have hx := hR.ex_at k
      show X.rgt S n + (if X.ex S n = 0 then 1 else 0) = _
      rw [ih (by omega)]
      by_cases z : S.angP 0 n
      · rw [cntP_y z, if_pos]
        have := zcmp_z.mp z
        omega
      · rw [cntP_n z, if_neg, Int.add_zero]
        intro y
        refine z (zcmp_z.mpr ?_)
        omega
  exact key T (Nat.le_refl T)
theorem St.Ok.c_area {S : St} (h : S.Ok) {T : Nat} (hT : S.tn = (T : Int)) : S.arF T = 8000000 := by
  have hl := h.2.2.1
  have hlen : (S.tl 1600).length = T := by have := hl.1.1; omega
  have hs : ∀ n : Nat, S.arF n = sumR n (fun t => S.sd3 (S.cn t 0) (S.cn t 1) (S.cn t 2)) := by
    intro n
    induction n with
    | zero => rfl
    | succ n ih =>
      show S.arF n + S.sd3 (S.cn n 0) (S.cn n 1) (S.cn n 2) = sumR n _ + S.sd3 (S.cn n 0) (S.cn n 1) (S.cn n 2)
      rw [ih]
  rw [hs, ← St.area_sum h.M, ← hlen]
  have := sumR_list (f := fun t => S.sd3 (S.cn t 0) (S.cn t 1) (S.cn t 2)) (F := fun e => S.sd3 (e / 40) (e % 40) (S.ap e).toNat) (S.tl 1600) 0 (fun t e he => by
    obtain ⟨r1, r2, r3⟩ := hl.1.2.1 t e he
    rw [Nat.zero_add]
    unfold St.cn
    rw [Nat.add_zero, r1, r2, r3, Int.toNat_natCast, Int.toNat_natCast])
  rw [← this]
  exact sumR_congr (fun k _ => by rw [Nat.zero_add])
theorem St.Ok.c_euler {S : St} (h : S.Ok) {T : Nat} (hT : S.tn = (T : Int)) : cntP S.has 40 - S.ec + (T : Int) = 1 := by
  obtain ⟨c1, c2⟩ := St.counts h.M
  have e1 : S.tn = ((S.tl 1600).length : Int) := h.2.2.1.1.1
  have e2 : S.ec = ((S.el 1600).length : Int) := h.2.1.1.1
  have e3 : cntP S.has 40 = S.nV := by
    rw [cntP_sum]
    unfold St.nV
    refine sumR_congr (fun p _ => ?_)
    by_cases z : S.has p
    · rw [cI_y z, if_pos z]
    · rw [cI_n z, if_neg z]
  omega
