/-! THE LAW: all pairs of points. Rows laid by program (wip/p63/wk.py, hw.py, mk98y.py). -/
theorem St.U_sw (S : St) (F : Nat → Int) (a b c d : Nat) : S.U F b a d c = S.U F a b c d := by
  unfold St.U St.sd3 St.sd
  grind
theorem St.alw_sw {S : St} (hB : S.inB) (hd : S.dist) {p q r s : Nat} (hb : p < 40 ∧ q < 40 ∧ r < 40 ∧ s < 40) (hh : S.has p ∧ S.has q ∧ S.has r ∧ S.has s) (hn : p ≠ q ∧ q ≠ r ∧ r ≠ p ∧ p ≠ s ∧ q ≠ s ∧ r ≠ s) : S.alw q p s r ↔ S.alw p q r s := by
  have hdp := hd p q hb.1 hb.2.1 hh.1 hh.2.1
  have key : ∀ f : Nat, (S.ahd p q ∧ f = p) ∨ (¬ S.ahd p q ∧ f = q) → (S.alw q p s r ↔ S.alw p q r s) := by
    intro f hf
    have h1 := St.bad_iff hB hd hb hh hn hf
    have hf2 : (S.ahd q p ∧ f = q) ∨ (¬ S.ahd q p ∧ f = p) := by
      rcases hf with ⟨z, e⟩ | ⟨z, e⟩
      · exact Or.inr ⟨fun z2 => by unfold St.ahd at z z2; omega, e⟩
      · refine Or.inl ⟨?_, e⟩
        unfold St.ahd at z ⊢
        by_cases e1 : S.xs p = S.xs q
        · by_cases e2 : S.ys p = S.ys q
          · exact absurd (hdp e1 e2) hn.1
          · omega
        · omega
    have h2 := St.bad_iff hB hd (p := q) (q := p) (r := s) (s := r) ⟨hb.2.1, hb.1, hb.2.2.2, hb.2.2.1⟩ ⟨hh.2.1, hh.1, hh.2.2.2, hh.2.2.1⟩ ⟨hn.1.symm, hn.2.2.2.1, hn.2.2.2.2.1.symm, hn.2.1, hn.2.2.1.symm, hn.2.2.2.2.2.symm⟩ hf2
    have el : S.lin q p s r = S.lin p q r s := by rw [St.lin_U, St.lin_U, St.U_sw]
    rw [el] at h2
    have h3 : ¬ S.alw q p s r ↔ ¬ S.alw p q r s := by
      rw [h1, h2]
      constructor
      · rintro (z | ⟨z1, z2⟩)
        · exact Or.inl z
        · exact Or.inr ⟨z1, z2.symm⟩
      · rintro (z | ⟨z1, z2⟩)
        · exact Or.inl z
        · exact Or.inr ⟨z1, z2.symm⟩
    exact ⟨fun z => Classical.byContradiction (fun n => h3.mpr n z), fun z => Classical.byContradiction (fun n => h3.mp n z)⟩
  by_cases c : S.ahd p q
  · exact key p (Or.inl ⟨c, rfl⟩)
  · exact key q (Or.inr ⟨c, rfl⟩)
/-- an edge with a triangle on each side -/
theorem St.Ok.pair2 {S : St} (h : S.Ok) {T : Nat} (hT : S.tn = (T : Int)) {u v : Nat} (hu : u < 40) (hv : v < 40) (E1 : S.E u v) (E2 : S.E v u) : ∃ i a0 b0 c0 r j a1 b1 c1 s : Nat, (i < T ∧ S.tri3 i a0 b0 c0 ∧ S.sid u v = (i : Int) + 1 ∧ r < 40 ∧ S.ap (u * 40 + v) = (r : Int) ∧ a0 + b0 + c0 = u + v + r) ∧ (j < T ∧ S.tri3 j a1 b1 c1 ∧ S.sid v u = (j : Int) + 1 ∧ s < 40 ∧ S.ap (v * 40 + u) = (s : Int) ∧ a1 + b1 + c1 = v + u + s) ∧ (S.has u ∧ S.has v ∧ S.has r ∧ S.has s) ∧ (u ≠ v ∧ v ≠ r ∧ r ≠ u ∧ u ≠ s ∧ v ≠ s ∧ r ≠ s) := by
  obtain ⟨i, a0, b0, c0, r, hi⟩ := h.sid_tri hT hu hv E1
  obtain ⟨j, a1, b1, c1, s, hj⟩ := h.sid_tri hT hv hu E2
  obtain ⟨s1, s2, s3, g1⟩ := h.M.1.PM.2.2 u v r hu hv hi.2.2.2.1 hi.2.2.2.2.1
  obtain ⟨-, -, s4, g2⟩ := h.M.1.PM.2.2 v u s hv hu hj.2.2.2.1 hj.2.2.2.2.1
  obtain ⟨n1, n2, n3⟩ := St.sd3_ne g1
  obtain ⟨m1, m2, m3⟩ := St.sd3_ne g2
  refine ⟨i, a0, b0, c0, r, j, a1, b1, c1, s, hi, hj, ⟨s1, s2, s3, s4⟩, ⟨n1, n2, n3, m2, fun e => m3 e.symm, fun e => ?_⟩⟩
  subst e
  have := S.sd3_swap u v r
  omega
/-- an edge that is fixed and wouldn't be allowed -/
def St.bdP (S : St) (u v : Nat) : Prop := S.how u v = 1 ∧ ¬ S.alw u v (S.ap (u * 40 + v)).toNat (S.ap (v * 40 + u)).toNat
noncomputable def cnt2 (P : Nat → Nat → Prop) : Nat → Int
  | 0 => 0
  | n + 1 => cnt2 P n + cntP (P n) n
theorem St.Ok.two_free {S : St} (h : S.Ok) {u v : Nat} (hu : u < 40) (hv : v < 40) (hn : S.nr u v) (hb : ¬ S.bound u v) : S.E u v ∧ S.E v u := by
  have hE := (St.near_E h.M.1.PM h.2.1 hu hv).mp hn
  obtain ⟨f1, f2⟩ := h.M.2.1
  constructor
  · intro e
    rcases hE with z | z
    · exact z e
    · exact hb (f1 v u hv hu (f2 v u hv hu z e)).1
  · intro e
    rcases hE with z | z
    · exact hb (f2 u v hu hv z e)
    · exact z e
theorem St.Ok.fix_nr {S : St} (h : S.Ok) {u v : Nat} (hu : u < 40) (hv : v < 40) (hb : S.bound u v) : S.nr u v := (St.near_E h.M.1.PM h.2.1 hu hv).mpr (h.M.2.1.1 u v hu hv hb).2.2.2
theorem St.Ok.two_fix {S : St} (h : S.Ok) {u v : Nat} (hu : u < 40) (hv : v < 40) (hb : S.bound u v) (ho : ¬ (S.onside u v ∨ S.onside v u)) : S.E u v ∧ S.E v u := by
  have := St.one_iff h.M.1 hu hv (h.M.2.1.1 u v hu hv hb).2.2.2
  exact Classical.byContradiction (fun z => ho (this.mp z))
theorem St.Ok.sid_0 {S : St} (h : S.Ok) {u v : Nat} (hu : u < 40) (hv : v < 40) (hb : S.bound u v) (ho : S.onside u v ∨ S.onside v u) : S.sid u v * S.sid v u = 0 := by
  have := (St.one_iff h.M.1 hu hv (h.M.2.1.1 u v hu hv hb).2.2.2).mpr ho
  have key : S.ap (u * 40 + v) = -1 ∨ S.ap (v * 40 + u) = -1 := by
    by_cases z : S.ap (u * 40 + v) = -1
    · exact Or.inl z
    · by_cases z2 : S.ap (v * 40 + u) = -1
      · exact Or.inr z2
      · exact absurd ⟨z, z2⟩ this
  unfold St.sid
  rcases key with z | z
  · rw [if_pos z, Int.zero_mul]
  · rw [if_pos z, Int.mul_zero]
theorem St.Ok.sid_n0 {S : St} (h : S.Ok) {T : Nat} (hT : S.tn = (T : Int)) {u v : Nat} (hu : u < 40) (hv : v < 40) (h1 : S.E u v) (h2 : S.E v u) : S.sid u v * S.sid v u ≠ 0 := by
  obtain ⟨i, -, -, -, -, -, -, e1, -⟩ := h.sid_tri hT hu hv h1
  obtain ⟨j, -, -, -, -, -, -, e2, -⟩ := h.sid_tri hT hv hu h2
  exact Int.mul_ne_zero (by omega) (by omega)
/-- an edge that isn't fixed is allowed -/
theorem St.Ok.free_alw {S : St} (h : S.Ok) {u v r s : Nat} (hu : u < 40) (hvu : v < u) (E1 : S.E u v) (E2 : S.E v u) (hb : ¬ S.bound u v) (hr : r < 40) (hs : s < 40) (er : S.ap (u * 40 + v) = (r : Int)) (es : S.ap (v * 40 + u) = (s : Int)) (hh : S.has u ∧ S.has v ∧ S.has r ∧ S.has s) (hn : u ≠ v ∧ v ≠ r ∧ r ≠ u ∧ u ≠ s ∧ v ≠ s ∧ r ≠ s) : S.alw u v r s := by
  have hv : v < 40 := by omega
  have d := h.1.2.1 v u hvu hu E2 E1 (fun z => hb (h.M.2.1.1 v u hv hu z).1)
  rw [er, es, Int.toNat_natCast, Int.toNat_natCast] at d
  exact (St.alw_sw h.B h.M.1.2.1 ⟨hu, hv, hr, hs⟩ hh hn).mp d
theorem l_p942 {w : pW} {a b q u v T : Nat} {x3 x4 x5 x6 x7 x8 : Int} {Φ : Option Value → pW → Prop} (KK : qE 151 (497, [(11, .int (iI ((v + 1 : Nat) : Int))), (10, .int (iI (u : Int))), (9, .ref q), (8, .int (iI x8)), (7, .int (iI x7)), (6, .int (iI x6)), (5, .int (iI x5)), (4, .int (iI x4)), (3, .int (iI x3)), (2, .int (iI (T : Int))), (0, .ref b), (1, .ref a)], [], w) Φ) : qE 151 (942, [(11, .int (iI (v : Int))), (10, .int (iI (u : Int))), (9, .ref q), (8, .int (iI x8)), (7, .int (iI x7)), (6, .int (iI x6)), (5, .int (iI x5)), (4, .int (iI x4)), (3, .int (iI x3)), (2, .int (iI (T : Int))), (0, .ref b), (1, .ref a)], [], w) Φ := by
  refine pe_go (pc := 942) rfl (s_iinc (x := (v : Int)) (y := ((v + 1 : Nat) : Int)) rfl (by omega) (lv' := [(11, .int (iI ((v + 1 : Nat) : Int))), (10, .int (iI (u : Int))), (9, .ref q), (8, .int (iI x8)), (7, .int (iI x7)), (6, .int (iI x6)), (5, .int (iI x5)), (4, .int (iI x4)), (3, .int (iI x3)), (2, .int (iI (T : Int))), (0, .ref b), (1, .ref a)]) rfl) ?_
  refine pe_go (pc := 945) rfl s_goto ?_
  refine pe_few (lv := [(11, .int (iI ((v + 1 : Nat) : Int))), (10, .int (iI (u : Int))), (9, .ref q), (8, .int (iI x8)), (7, .int (iI x7)), (6, .int (iI x6)), (5, .int (iI x5)), (4, .int (iI x4)), (3, .int (iI x3)), (2, .int (iI (T : Int))), (0, .ref b), (1, .ref a)]) rfl rfl (by intro q hq; simp only [List.mem_cons, List.not_mem_nil, or_false] at hq; rcases hq with rfl | rfl | rfl | rfl | rfl | rfl | rfl | rfl | rfl | rfl | rfl | rfl <;> rfl) ?_
  exact KK
theorem l_p948 {w : pW} {a b q u T : Nat} {x3 x4 x5 x6 x7 x8 : Int} {Φ : Option Value → pW → Prop} (KK : qE 151 (467, [(10, .int (iI ((u + 1 : Nat) : Int))), (9, .ref q), (8, .int (iI x8)), (7, .int (iI x7)), (6, .int (iI x6)), (5, .int (iI x5)), (4, .int (iI x4)), (3, .int (iI x3)), (2, .int (iI (T : Int))), (0, .ref b), (1, .ref a)], [], w) Φ) : qE 151 (948, [(10, .int (iI (u : Int))), (9, .ref q), (8, .int (iI x8)), (7, .int (iI x7)), (6, .int (iI x6)), (5, .int (iI x5)), (4, .int (iI x4)), (3, .int (iI x3)), (2, .int (iI (T : Int))), (0, .ref b), (1, .ref a)], [], w) Φ := by
  refine pe_go (pc := 948) rfl (s_iinc (x := (u : Int)) (y := ((u + 1 : Nat) : Int)) rfl (by omega) (lv' := [(10, .int (iI ((u + 1 : Nat) : Int))), (9, .ref q), (8, .int (iI x8)), (7, .int (iI x7)), (6, .int (iI x6)), (5, .int (iI x5)), (4, .int (iI x4)), (3, .int (iI x3)), (2, .int (iI (T : Int))), (0, .ref b), (1, .ref a)]) rfl) ?_
  refine pe_go (pc := 951) rfl s_goto ?_
  refine pe_few (lv := [(10, .int (iI ((u + 1 : Nat) : Int))), (9, .ref q), (8, .int (iI x8)), (7, .int (iI x7)), (6, .int (iI x6)), (5, .int (iI x5)), (4, .int (iI x4)), (3, .int (iI x3)), (2, .int (iI (T : Int))), (0, .ref b), (1, .ref a)]) rfl rfl (by intro q hq; simp only [List.mem_cons, List.not_mem_nil, or_false] at hq; rcases hq with rfl | rfl | rfl | rfl | rfl | rfl | rfl | rfl | rfl | rfl | rfl <;> rfl) ?_
  exact KK
theorem l_pairsIn {w0 : pW} {pre post : pW} {b : Nat} (hb : pre.length = b) {S : St} {L M : List St} {K : St} (hO : OB pre post b S L M K w0) {O Q : Nat → Prop} {a : Nat} {X : Sh} {pa fa ha : Nat} {pf gf hf : Nat → Option Nat} {ff : Nat → Nat} (hS : shP w0 O Q a X pa fa ha pf gf hf ff) (hR : Rel S X) {T : Nat} (hT : S.tn = (T : Int)) (hT2 : T ≤ 74) {q : Nat} {tf : Nat → Option Nat} {tr : Nat → Nat} {G : Nat → Nat → Int} (hG : ∀ x y : Nat, x < 40 → y < 40 → G x y = S.sid x y) {u : Nat} (hu : u < 40) {x3 x4 A5 A6 A7 A8 n z : Int} {Φ : Option Value → pW → Prop} (KK : ∀ w : pW, pfx w0 w → tabAt w q tf tr G → (w.length : Int) ≤ n + 5 * (A7 + cntP (S.nr u) u) → (pwsz w : Int) ≤ z + 15 * (A7 + cntP (S.nr u) u) → qE 151 (948, [(10, .int (iI (u : Int))), (9, .ref q), (8, .int (iI (A8 + cntP (S.bdP u) u))), (7, .int (iI (A7 + cntP (S.nr u) u))), (6, .int (iI (A6 + cntP (fun v => S.how u v = 2) u))), (5, .int (iI (A5 + cntP (S.bound u) u))), (4, .int (iI x4)), (3, .int (iI x3)), (2, .int (iI (T : Int))), (0, .ref b), (1, .ref a)], [], w) Φ) : ∀ (d v : Nat) (w : pW) (x5 x6 x7 x8 : Int), v + d = u → pfx w0 w → tabAt w q tf tr G → x5 = A5 + cntP (S.bound u) v → x6 = A6 + cntP (fun v => S.how u v = 2) v → x7 = A7 + cntP (S.nr u) v → x8 = A8 + cntP (S.bdP u) v → (w.length : Int) ≤ n + 5 * x7 → (pwsz w : Int) ≤ z + 15 * x7 → qE 151 (497, [(11, .int (iI (v : Int))), (10, .int (iI (u : Int))), (9, .ref q), (8, .int (iI x8)), (7, .int (iI x7)), (6, .int (iI x6)), (5, .int (iI x5)), (4, .int (iI x4)), (3, .int (iI x3)), (2, .int (iI (T : Int))), (0, .ref b), (1, .ref a)], [], w) Φ := by
  intro d
  induction d with
  | zero =>
    intro v w x5 x6 x7 x8 hv hp hT9 e5 e6 e7 e8 hl hz
    have ev : v = u := by omega
    subst ev e5 e6 e7 e8
    refine pe_go (pc := 497) rfl (s_iload rfl) ?_
    refine pe_go (pc := 499) rfl (s_iload rfl) ?_
    refine pe_go rfl (s_icmp_ge_t ⟨by omega, by omega⟩ ⟨by omega, by omega⟩ (by omega)) ?_
    refine pe_few (lv := [(10, .int (iI (v : Int))), (9, .ref q), (8, .int (iI (A8 + cntP (S.bdP v) v))), (7, .int (iI (A7 + cntP (S.nr v) v))), (6, .int (iI (A6 + cntP (fun v9 => S.how v v9 = 2) v))), (5, .int (iI (A5 + cntP (S.bound v) v))), (4, .int (iI x4)), (3, .int (iI x3)), (2, .int (iI (T : Int))), (0, .ref b), (1, .ref a)]) rfl rfl (by intro q hq; simp only [List.mem_cons, List.not_mem_nil, or_false] at hq; rcases hq with rfl | rfl | rfl | rfl | rfl | rfl | rfl | rfl | rfl | rfl | rfl <;> rfl) ?_
    exact KK w hp hT9 hl hz
  | succ d ih =>
    intro v w x5 x6 x7 x8 hv hp hT9 e5 e6 e7 e8 hl hz
    have hvu : v < u := by omega
    have hv4 : v < 40 := by omega
    obtain ⟨pos1, hO1⟩ := OB_pfx hp hO
    have hS1 := shP_pfx hp hS
    have b1 := hO.1.sid_b hT hu hv4
    have b2 := hO.1.sid_b hT hv4 hu
    have g1 := hG u v hu hv4
    have g2 := hG v u hv4 hu
    have hg : 0 ≤ G u v ∧ G u v ≤ 74 ∧ 0 ≤ G v u ∧ G v u ≤ 74 := by omega
    have hN : 0 < G u v + G v u ↔ S.nr u v := by rw [g1, g2]; exact hO.1.sid_nr hu hv4
    have hh := hR.2.2.1 u v hu hv4
    by_cases hbo : S.bound u v
    · have hn := hO.1.fix_nr hu hv4 hbo
      by_cases ho : S.onside u v ∨ S.onside v u
      · have h2 := St.how_2.mpr ⟨hbo, ho⟩
        rw [h2] at hh
        refine l_pairD hb hO1 hS1 hT9 hu hvu hh hg hN hn hbo (by rw [g1, g2]; exact hO.1.sid_0 hu hv4 hbo ho) ?_
        refine l_p942 ?_
        refine ih (v + 1) w _ _ _ _ (by omega) hp hT9 ?_ ?_ ?_ ?_ (by omega) (by omega)
        · rw [cntP_y hbo, e5]; omega
        · rw [cntP_y (show (fun v => S.how u v = 2) v from h2), e6]; omega
        · rw [cntP_y hn, e7]; omega
        · rw [cntP_n (show ¬ S.bdP u v from fun z => by have := z.1; omega), e8]
      · have h1 := St.how_1.mpr ⟨hbo, ho⟩
        rw [h1] at hh
        obtain ⟨E1, E2⟩ := hO.1.two_fix hu hv4 hbo ho
        obtain ⟨i, a0, b0, c0, r, j, a1, b1', c1, s, ⟨i1, i2, i3, i4, i5, i6⟩, ⟨j1, j2, j3, j4, j5, j6⟩, hhs, hne⟩ := hO.1.pair2 hT hu hv4 E1 E2
        have hbad := fun f hf => St.bad_iff hO.1.B hO.1.M.1.2.1 ⟨hu, hv4, i4, j4⟩ hhs hne (f := f) hf
        have hbd : S.bdP u v ↔ ¬ S.alw u v r s := by
          unfold St.bdP
          rw [i5, j5, Int.toNat_natCast, Int.toNat_natCast]
          exact ⟨fun z => z.2, fun z => ⟨h1, z⟩⟩
        refine l_pairC hb hO1 hS1 hT9 hu hvu hh hg hN hn hbo (by rw [g1, g2]; exact hO.1.sid_n0 hT hu hv4 E1 E2) ?_
        refine l_circ hb hO1 hS1 hT9 hT hT2 hu hv4 i4 j4 hhs.1 hhs.2.1 hhs.2.2.1 hhs.2.2.2 hR (g1.trans i3) (g2.trans j3) i1 j1 i2 j2 i6 j6 (fun l w' ew hl9 hz9 => ?_)
        have hpw : pfx w w' := ⟨l, ew⟩
        have hp' := pfx_trans hp hpw
        obtain ⟨pos2, hO2⟩ := OB_pfx hp' hO
        have hl2 : (w'.length : Int) ≤ n + 5 * (x7 + 1) := by
          rw [ew, List.length_append]; omega
        have hz2 : (pwsz w' : Int) ≤ z + 15 * (x7 + 1) := by
          have : pwsz (w ++ l) = pwsz w + pwsz l := by unfold pwsz; rw [List.map_append, List.sum_append]
          rw [ew]; omega
        have fin1 : S.bdP u v → qE 151 (942, [(11, .int (iI (v : Int))), (10, .int (iI (u : Int))), (9, .ref q), (8, .int (iI (x8 + 1))), (7, .int (iI (x7 + 1))), (6, .int (iI x6)), (5, .int (iI (x5 + 1))), (4, .int (iI x4)), (3, .int (iI x3)), (2, .int (iI (T : Int))), (0, .ref b), (1, .ref a)], [], w') Φ := fun hB => by
          refine l_p942 ?_
          refine ih (v + 1) w' _ _ _ _ (by omega) hp' (tab_pfx hpw hT9) ?_ ?_ ?_ ?_ hl2 hz2
          · rw [cntP_y hbo, e5]; omega
          · rw [cntP_n (show ¬ (fun v => S.how u v = 2) v from fun (z : S.how u v = 2) => by rw [h1] at z; exact absurd z (by decide)), e6]
          · rw [cntP_y hn, e7]; omega
          · rw [cntP_y hB, e8]; omega
        have fin0 : ¬ S.bdP u v → qE 151 (942, [(11, .int (iI (v : Int))), (10, .int (iI (u : Int))), (9, .ref q), (8, .int (iI x8)), (7, .int (iI (x7 + 1))), (6, .int (iI x6)), (5, .int (iI (x5 + 1))), (4, .int (iI x4)), (3, .int (iI x3)), (2, .int (iI (T : Int))), (0, .ref b), (1, .ref a)], [], w') Φ := fun hB => by
          refine l_p942 ?_
          refine ih (v + 1) w' _ _ _ _ (by omega) hp' (tab_pfx hpw hT9) ?_ ?_ ?_ ?_ hl2 hz2
          · rw [cntP_y hbo, e5]; omega
          · rw [cntP_n (show ¬ (fun v => S.how u v = 2) v from fun (z : S.how u v = 2) => by rw [h1] at z; exact absurd z (by decide)), e6]
          · rw [cntP_y hn, e7]; omega
          · rw [cntP_n hB, e8]
        by_cases hf : S.ahd u v
        · have hbf := hbad u (Or.inl ⟨hf, rfl⟩)
          exact l_bad1u hb hO2 (shP_pfx hp' hS) hu hv4 i4 j4 hhs.1 hhs.2.1 hhs.2.2.1 hhs.2.2.2 hR hf (fun z => fin1 (hbd.mpr (hbf.mpr z))) (fun z => fin0 (fun z2 => z (hbf.mp (hbd.mp z2))))
        · have hbf := hbad v (Or.inr ⟨hf, rfl⟩)
          exact l_bad1v hb hO2 (shP_pfx hp' hS) hu hv4 i4 j4 hhs.1 hhs.2.1 hhs.2.2.1 hhs.2.2.2 hR hf (fun z => fin1 (hbd.mpr (hbf.mpr z))) (fun z => fin0 (fun z2 => z (hbf.mp (hbd.mp z2))))
    · have h0 := St.how_0.mpr hbo
      rw [h0] at hh
      have nbd : ¬ S.bdP u v := fun z => by have := z.1; omega
      by_cases hn : S.nr u v
      · obtain ⟨E1, E2⟩ := hO.1.two_free hu hv4 hn hbo
        obtain ⟨i, a0, b0, c0, r, j, a1, b1', c1, s, ⟨i1, i2, i3, i4, i5, i6⟩, ⟨j1, j2, j3, j4, j5, j6⟩, hhs, hne⟩ := hO.1.pair2 hT hu hv4 E1 E2
        have hbad := fun f hf => St.bad_iff hO.1.B hO.1.M.1.2.1 ⟨hu, hv4, i4, j4⟩ hhs hne (f := f) hf
        have hal := hO.1.free_alw hu hvu E1 E2 hbo i4 j4 i5 j5 hhs hne
        refine l_pairB hb hO1 hS1 hT9 hu hvu hh hg hN hn hbo (by rw [g1, g2]; exact hO.1.sid_n0 hT hu hv4 E1 E2) ?_
        refine l_circ hb hO1 hS1 hT9 hT hT2 hu hv4 i4 j4 hhs.1 hhs.2.1 hhs.2.2.1 hhs.2.2.2 hR (g1.trans i3) (g2.trans j3) i1 j1 i2 j2 i6 j6 (fun l w' ew hl9 hz9 => ?_)
        have hpw : pfx w w' := ⟨l, ew⟩
        have hp' := pfx_trans hp hpw
        obtain ⟨pos2, hO2⟩ := OB_pfx hp' hO
        have hl2 : (w'.length : Int) ≤ n + 5 * (x7 + 1) := by
          rw [ew, List.length_append]; omega
        have hz2 : (pwsz w' : Int) ≤ z + 15 * (x7 + 1) := by
          have : pwsz (w ++ l) = pwsz w + pwsz l := by unfold pwsz; rw [List.map_append, List.sum_append]
          rw [ew]; omega
        have fin0 : qE 151 (942, [(11, .int (iI (v : Int))), (10, .int (iI (u : Int))), (9, .ref q), (8, .int (iI x8)), (7, .int (iI (x7 + 1))), (6, .int (iI x6)), (5, .int (iI x5)), (4, .int (iI x4)), (3, .int (iI x3)), (2, .int (iI (T : Int))), (0, .ref b), (1, .ref a)], [], w') Φ := by
          refine l_p942 ?_
          refine ih (v + 1) w' _ _ _ _ (by omega) hp' (tab_pfx hpw hT9) ?_ ?_ ?_ ?_ hl2 hz2
          · rw [cntP_n hbo, e5]
          · rw [cntP_n (show ¬ (fun v => S.how u v = 2) v from fun (z : S.how u v = 2) => by rw [h0] at z; exact absurd z (by decide)), e6]
          · rw [cntP_y hn, e7]; omega
          · rw [cntP_n nbd, e8]
        by_cases hf : S.ahd u v
        · have hbf := fun z => (hbad u (Or.inl ⟨hf, rfl⟩)).mpr z hal
          exact l_bad0u hb hO2 (shP_pfx hp' hS) hu hv4 i4 j4 hhs.1 hhs.2.1 hhs.2.2.1 hhs.2.2.2 hR hf hbf (fun z => absurd z hbf) (fun _ => fin0)
        · have hbf := fun z => (hbad v (Or.inr ⟨hf, rfl⟩)).mpr z hal
          exact l_bad0v hb hO2 (shP_pfx hp' hS) hu hv4 i4 j4 hhs.1 hhs.2.1 hhs.2.2.1 hhs.2.2.2 hR hf hbf (fun z => absurd z hbf) (fun _ => fin0)
      · refine l_pairA hb hO1 hS1 hT9 hu hvu hh hg hN hn hbo ?_
        refine l_p942 ?_
        refine ih (v + 1) w _ _ _ _ (by omega) hp hT9 ?_ ?_ ?_ ?_ hl hz
        · rw [cntP_n hbo, e5]
        · rw [cntP_n (show ¬ (fun v => S.how u v = 2) v from fun (z : S.how u v = 2) => by rw [h0] at z; exact absurd z (by decide)), e6]
        · rw [cntP_n hn, e7]
        · rw [cntP_n nbd, e8]
theorem l_pairs {w0 : pW} {pre post : pW} {b : Nat} (hb : pre.length = b) {S : St} {L M : List St} {K : St} (hO : OB pre post b S L M K w0) {O Q : Nat → Prop} {a : Nat} {X : Sh} {pa fa ha : Nat} {pf gf hf : Nat → Option Nat} {ff : Nat → Nat} (hS : shP w0 O Q a X pa fa ha pf gf hf ff) (hR : Rel S X) {T : Nat} (hT : S.tn = (T : Int)) (hT2 : T ≤ 74) {q : Nat} {tf : Nat → Option Nat} {tr : Nat → Nat} {G : Nat → Nat → Int} (hG : ∀ x y : Nat, x < 40 → y < 40 → G x y = S.sid x y) {x3 n z : Int} {Φ : Option Value → pW → Prop} (KK : ∀ w : pW, pfx w0 w → tabAt w q tf tr G → (w.length : Int) ≤ n + 5 * (cnt2 S.nr 40) → (pwsz w : Int) ≤ z + 15 * (cnt2 S.nr 40) → qE 151 (954, [(9, .ref q), (8, .int (iI (cnt2 S.bdP 40))), (7, .int (iI (cnt2 S.nr 40))), (6, .int (iI (cnt2 (fun u v => S.how u v = 2) 40))), (5, .int (iI (cnt2 S.bound 40))), (4, .int (iI (cntP S.has 40))), (3, .int (iI x3)), (2, .int (iI (T : Int))), (0, .ref b), (1, .ref a)], [], w) Φ) : ∀ (d u : Nat) (w : pW) (x4 x5 x6 x7 x8 : Int), u + d = 40 → pfx w0 w → tabAt w q tf tr G → x4 = cntP S.has u → x5 = cnt2 S.bound u → x6 = cnt2 (fun u v => S.how u v = 2) u → x7 = cnt2 S.nr u → x8 = cnt2 S.bdP u → (w.length : Int) ≤ n + 5 * x7 → (pwsz w : Int) ≤ z + 15 * x7 → qE 151 (467, [(10, .int (iI (u : Int))), (9, .ref q), (8, .int (iI x8)), (7, .int (iI x7)), (6, .int (iI x6)), (5, .int (iI x5)), (4, .int (iI x4)), (3, .int (iI x3)), (2, .int (iI (T : Int))), (0, .ref b), (1, .ref a)], [], w) Φ := by
  intro d
  induction d with
  | zero =>
    intro u w x4 x5 x6 x7 x8 hu hp hT9 e4 e5 e6 e7 e8 hl hz
    have eu : u = 40 := by omega
    subst eu e4 e5 e6 e7 e8
    refine pe_go (pc := 467) rfl (s_iload rfl) ?_
    refine pe_go (pc := 469) rfl (s_bipush (z := 40) rfl) ?_
    refine pe_go rfl (s_icmp_ge_t ⟨by omega, by omega⟩ ⟨by decide, by decide⟩ (by omega)) ?_
    refine pe_few (lv := [(9, .ref q), (8, .int (iI (cnt2 S.bdP 40))), (7, .int (iI (cnt2 S.nr 40))), (6, .int (iI (cnt2 (fun u v => S.how u v = 2) 40))), (5, .int (iI (cnt2 S.bound 40))), (4, .int (iI (cntP S.has 40))), (3, .int (iI x3)), (2, .int (iI (T : Int))), (0, .ref b), (1, .ref a)]) rfl rfl (by intro q hq; simp only [List.mem_cons, List.not_mem_nil, or_false] at hq; rcases hq with rfl | rfl | rfl | rfl | rfl | rfl | rfl | rfl | rfl | rfl <;> rfl) ?_
    exact KK w hp hT9 hl hz
  | succ d ih =>
    intro u w x4 x5 x6 x7 x8 hu hp hT9 e4 e5 e6 e7 e8 hl hz
    have hu4 : u < 40 := by omega
    obtain ⟨pos1, hO1⟩ := OB_pfx hp hO
    have hS1 := shP_pfx hp hS
    have step : ∀ x4' : Int, x4' = cntP S.has (u + 1) → qE 151 (497, [(11, .int (iI ((0 : Nat) : Int))), (10, .int (iI (u : Int))), (9, .ref q), (8, .int (iI x8)), (7, .int (iI x7)), (6, .int (iI x6)), (5, .int (iI x5)), (4, .int (iI x4')), (3, .int (iI x3)), (2, .int (iI (T : Int))), (0, .ref b), (1, .ref a)], [], w) Φ := by
      intro x4' e4'
      refine l_pairsIn hb hO hS hR hT hT2 hG hu4 (A5 := x5) (A6 := x6) (A7 := x7) (A8 := x8) (n := n) (z := z) (fun w' hp' hT' hl' hz' => ?_) u 0 w x5 x6 x7 x8 (by omega) hp hT9 ?_ ?_ ?_ ?_ hl hz
      · refine l_p948 ?_
        refine ih (u + 1) w' _ _ _ _ _ (by omega) hp' hT' e4' ?_ ?_ ?_ ?_ hl' hz'
        · rw [e5]; rfl
        · rw [e6]; rfl
        · rw [e7]; rfl
        · rw [e8]; rfl
      · exact (Int.add_zero _).symm
      · exact (Int.add_zero _).symm
      · exact (Int.add_zero _).symm
      · exact (Int.add_zero _).symm
    obtain ⟨hb9, h0, h1, h2, h3, h4, h5, h6, h7, h8, h9⟩ := hS1
    by_cases su : S.has u
    · obtain ⟨ru, eru, -, hru⟩ := h3 u _ _ _ hu4 (hR.pt hu4 su)
      refine pe_go (pc := 467) rfl (s_iload rfl) ?_
      refine pe_go (pc := 469) rfl (s_bipush (z := 40) rfl) ?_
      refine pe_go rfl (s_icmp_ge_f ⟨by omega, by omega⟩ ⟨by decide, by decide⟩ (by omega)) ?_
      refine pe_go (pc := 474) rfl (s_iload rfl) ?_
      refine pe_go (pc := 476) rfl (s_aload_n rfl) ?_
      refine pe_go (pc := 477) rfl (s_getf (v := .ref pa) h0 rfl) ?_
      refine pe_go (pc := 480) rfl (s_iload rfl) ?_
      refine pe_go (pc := 482) rfl (s_aald h1 (k := u) (by omega) (by omega) eru) ?_
      refine pe_go (pc := 483) rfl s_ifnonnull_t ?_
      refine pe_go (pc := 490) rfl (s_iconst (z := 1) rfl) ?_
      refine pe_go (pc := 491) rfl s_iadd ?_
      refine pe_go (pc := 492) rfl (s_istore (lv' := [(4, .int (iI (x4 + 1))), (10, .int (iI (u : Int))), (9, .ref q), (8, .int (iI x8)), (7, .int (iI x7)), (6, .int (iI x6)), (5, .int (iI x5)), (3, .int (iI x3)), (2, .int (iI (T : Int))), (0, .ref b), (1, .ref a)]) rfl) ?_
      refine pe_go (pc := 494) rfl (s_iconst (z := 0) rfl) ?_
      refine pe_go (pc := 495) rfl (s_istore (lv' := [(11, .int (iI 0)), (4, .int (iI (x4 + 1))), (10, .int (iI (u : Int))), (9, .ref q), (8, .int (iI x8)), (7, .int (iI x7)), (6, .int (iI x6)), (5, .int (iI x5)), (3, .int (iI x3)), (2, .int (iI (T : Int))), (0, .ref b), (1, .ref a)]) rfl) ?_
      refine pe_few (lv := [(11, .int (iI ((0 : Nat) : Int))), (10, .int (iI (u : Int))), (9, .ref q), (8, .int (iI x8)), (7, .int (iI x7)), (6, .int (iI x6)), (5, .int (iI x5)), (4, .int (iI (x4 + 1))), (3, .int (iI x3)), (2, .int (iI (T : Int))), (0, .ref b), (1, .ref a)]) rfl rfl (by intro q hq; simp only [List.mem_cons, List.not_mem_nil, or_false] at hq; rcases hq with rfl | rfl | rfl | rfl | rfl | rfl | rfl | rfl | rfl | rfl | rfl | rfl <;> rfl) ?_
      exact step _ (by rw [cntP_y su, e4])
    · have eu := h2 u hu4 (hR.no hu4 su)
      refine pe_go (pc := 467) rfl (s_iload rfl) ?_
      refine pe_go (pc := 469) rfl (s_bipush (z := 40) rfl) ?_
      refine pe_go rfl (s_icmp_ge_f ⟨by omega, by omega⟩ ⟨by decide, by decide⟩ (by omega)) ?_
      refine pe_go (pc := 474) rfl (s_iload rfl) ?_
      refine pe_go (pc := 476) rfl (s_aload_n rfl) ?_
      refine pe_go (pc := 477) rfl (s_getf (v := .ref pa) h0 rfl) ?_
      refine pe_go (pc := 480) rfl (s_iload rfl) ?_
      refine pe_go (pc := 482) rfl (s_aaldN h1 (k := u) (by omega) (by omega) eu) ?_
      refine pe_go (pc := 483) rfl s_ifnonnull_f ?_
      refine pe_go (pc := 486) rfl (s_iconst (z := 0) rfl) ?_
      refine pe_go (pc := 487) rfl s_goto ?_
      refine pe_go (pc := 491) rfl s_iadd0 ?_
      refine pe_go (pc := 492) rfl (s_istore (lv' := [(4, .int (iI x4)), (10, .int (iI (u : Int))), (9, .ref q), (8, .int (iI x8)), (7, .int (iI x7)), (6, .int (iI x6)), (5, .int (iI x5)), (3, .int (iI x3)), (2, .int (iI (T : Int))), (0, .ref b), (1, .ref a)]) rfl) ?_
      refine pe_go (pc := 494) rfl (s_iconst (z := 0) rfl) ?_
      refine pe_go (pc := 495) rfl (s_istore (lv' := [(11, .int (iI 0)), (4, .int (iI x4)), (10, .int (iI (u : Int))), (9, .ref q), (8, .int (iI x8)), (7, .int (iI x7)), (6, .int (iI x6)), (5, .int (iI x5)), (3, .int (iI x3)), (2, .int (iI (T : Int))), (0, .ref b), (1, .ref a)]) rfl) ?_
      refine pe_few (lv := [(11, .int (iI ((0 : Nat) : Int))), (10, .int (iI (u : Int))), (9, .ref q), (8, .int (iI x8)), (7, .int (iI x7)), (6, .int (iI x6)), (5, .int (iI x5)), (4, .int (iI x4)), (3, .int (iI x3)), (2, .int (iI (T : Int))), (0, .ref b), (1, .ref a)]) rfl rfl (by intro q hq; simp only [List.mem_cons, List.not_mem_nil, or_false] at hq; rcases hq with rfl | rfl | rfl | rfl | rfl | rfl | rfl | rfl | rfl | rfl | rfl | rfl <;> rfl) ?_
      exact step _ (by rw [cntP_n su, e4])
