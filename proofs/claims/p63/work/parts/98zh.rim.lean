/-! A MESH BESIDE: what its steps leave, told by the mesh that it is beside. By hand. -/
/-- all fixed edges lie along the sides -/
def St.rim (T : St) : Prop := ∀ u v : Nat, u < 40 → v < 40 → T.bound u v → T.onside u v ∨ T.onside v u
theorem St.rim_first {T : St} (h : Rel T Sh.first) : T.rim := by
  intro u v hu hv hb
  have e := h.2.2.1 u v hu hv
  rw [Sh.first_fx] at e
  have hn : T.how u v ≠ 0 := fun z => St.how_0.mp z hb
  have h2 : T.how u v = 2 := by
    by_cases c : (u = 3 ∧ v = 0) ∨ (u = 0 ∧ v = 3)
    · rw [if_pos c] at e; exact e.symm
    · rw [if_neg c] at e
      by_cases c : (u = 2 ∧ v = 3) ∨ (u = 3 ∧ v = 2)
      · rw [if_pos c] at e; exact e.symm
      · rw [if_neg c] at e
        by_cases c : (u = 1 ∧ v = 2) ∨ (u = 2 ∧ v = 1)
        · rw [if_pos c] at e; exact e.symm
        · rw [if_neg c] at e
          by_cases c : (u = 0 ∧ v = 1) ∨ (u = 1 ∧ v = 0)
          · rw [if_pos c] at e; exact e.symm
          · rw [if_neg c] at e; exact absurd e.symm hn
  exact (St.how_2.mp h2).2
theorem St.rim_laid {T R : St} (hT : T.Ok) (h : T.rim) {p : Nat} {x y : Int} (hnp : ¬ T.has p) (hl : T.laid R p x y) : R.rim := by
  obtain ⟨lx, ly, -, lb⟩ := hl
  have Fx := hT.M.2.1.1
  have hc : ∀ j : Nat, T.has j → R.xs j = T.xs j ∧ R.ys j = T.ys j := fun j sj => by
    have : j ≠ p := fun e => hnp (e ▸ sj)
    rw [lx, ly, uZ_ne this, uZ_ne this]
    exact ⟨rfl, rfl⟩
  have hp : R.xs p = x ∧ R.ys p = y := by rw [lx, ly, uZ_at, uZ_at]; exact ⟨rfl, rfl⟩
  have split : ∀ v w : Nat, v < 40 → w < 40 → T.bound v w → T.bt2 v w x y → R.onside v p ∨ R.onside p v := by
    intro v w hv hw hb ht
    obtain ⟨-, sv, sw, -⟩ := Fx v w hv hw hb
    have ho := h v w hv hw hb
    have hbt := btw_sym (St.bt2_btw.mp ht)
    have := (os_split hbt).mp (by
      rcases ho with z | z
      · exact Or.inr z
      · exact Or.inl z)
    rw [St.onside_os, St.onside_os, hp.1, hp.2, (hc v sv).1, (hc v sv).2]
    exact this
  intro u v hu hv hb
  rcases (lb u v hu hv).mp hb with ⟨z, -⟩ | ⟨rfl, w, hw, b1, b2⟩ | ⟨rfl, w, hw, b1, b2⟩
  · obtain ⟨-, su, sv, -⟩ := Fx u v hu hv z
    have ho := h u v hu hv z
    rw [St.onside_os, St.onside_os, (hc u su).1, (hc u su).2, (hc v sv).1, (hc v sv).2]
    exact ho
  · exact (split v w hv hw b1 b2).symm
  · exact split u w hu hw b1 b2
/-- points ahead of k are told, spare ones at places of their own -/
def bes1 (S T : St) (k : Nat) : Prop := T.rim ∧ (∀ j : Nat, j < 40 → (T.has j ↔ j < k)) ∧ (∀ j : Nat, j < k → T.hs j = 0) ∧ T.hn = 0 ∧ (∀ j : Nat, j < k → S.has j → T.xs j = S.xs j ∧ T.ys j = S.ys j) ∧ (∀ j : Nat, j < k → ¬ S.has j → (∀ i : Nat, i < 40 → S.has i → ¬ (S.xs i = T.xs j ∧ S.ys i = T.ys j)) ∧ (-1000 < T.xs j ∧ T.xs j < 1000 ∧ -1000 < T.ys j ∧ T.ys j < 1000))
theorem bes1_0 {S T : St} (hS : S.Ok) (h : Rel T Sh.first) : bes1 S T 4 := by
  have hp := Sh.first_pt
  have hhas : ∀ j : Nat, j < 40 → (T.has j ↔ j < 4) := fun j hj => by
    rw [← h.1 j hj, hp]
    by_cases c3 : j = 3
    · rw [if_pos c3]; exact ⟨fun _ => by omega, fun _ => rfl⟩
    · rw [if_neg c3]
      by_cases c2 : j = 2
      · rw [if_pos c2]; exact ⟨fun _ => by omega, fun _ => rfl⟩
      · rw [if_neg c2]
        by_cases c1 : j = 1
        · rw [if_pos c1]; exact ⟨fun _ => by omega, fun _ => rfl⟩
        · rw [if_neg c1]
          by_cases c0 : j = 0
          · rw [if_pos c0]; exact ⟨fun _ => by omega, fun _ => rfl⟩
          · rw [if_neg c0]; exact ⟨fun z => (by cases z), fun z => (by omega)⟩
  obtain ⟨cs, c0, c1, c2, c3⟩ := hS.Co
  have hcz : ∀ j : Nat, j < 4 → (T.xs j = S.xs j ∧ T.ys j = S.ys j) ∧ T.hs j = 0 := by
    intro j hj
    have sj := (hhas j (by omega)).mpr hj
    obtain ⟨e1, e2, e3⟩ := h.2.1 j (by omega) sj
    have : j = 0 ∨ j = 1 ∨ j = 2 ∨ j = 3 := by omega
    rcases this with rfl | rfl | rfl | rfl
    · obtain ⟨f1, f2, f3⟩ := Sh.c_of (show Sh.first.1 0 = some (-1000, -1000, 0) from hp 0)
      exact ⟨⟨by rw [← e1, f1, c0.1], by rw [← e2, f2, c0.2]⟩, by rw [← e3, f3]⟩
    · obtain ⟨f1, f2, f3⟩ := Sh.c_of (show Sh.first.1 1 = some (1000, -1000, 0) from hp 1)
      exact ⟨⟨by rw [← e1, f1, c1.1], by rw [← e2, f2, c1.2]⟩, by rw [← e3, f3]⟩
    · obtain ⟨f1, f2, f3⟩ := Sh.c_of (show Sh.first.1 2 = some (1000, 1000, 0) from hp 2)
      exact ⟨⟨by rw [← e1, f1, c2.1], by rw [← e2, f2, c2.2]⟩, by rw [← e3, f3]⟩
    · obtain ⟨f1, f2, f3⟩ := Sh.c_of (show Sh.first.1 3 = some (-1000, 1000, 0) from hp 3)
      exact ⟨⟨by rw [← e1, f1, c3.1], by rw [← e2, f2, c3.2]⟩, by rw [← e3, f3]⟩
  refine ⟨St.rim_first h, hhas, fun j hj => (hcz j hj).2, ?_, fun j hj _ => (hcz j hj).1, fun j hj hn => ?_⟩
  · have := h.2.2.2.1
    rw [← this]
    rfl
  · have : j = 0 ∨ j = 1 ∨ j = 2 ∨ j = 3 := by omega
    rcases this with rfl | rfl | rfl | rfl
    · exact absurd cs.1 hn
    · exact absurd cs.2.1 hn
    · exact absurd cs.2.2.1 hn
    · exact absurd cs.2.2.2 hn
theorem bes1_takes {S T : St} (hS : S.Ok) (hT : T.Ok) {k : Nat} (h : bes1 S T k) (hk4 : 4 ≤ k) (hk : k < 40) {x y : Int} (h1 : S.has k → x = S.xs k ∧ y = S.ys k) (h2 : ¬ S.has k → (∀ i : Nat, i < 40 → T.has i → ¬ (T.xs i = x ∧ T.ys i = y)) ∧ inSq x y) : T.takes x y ∧ T.lu = (k : Int) := by
  obtain ⟨b1, b2, b3, b4, b5, b6⟩ := h
  have hlu : T.lu ≠ -1 := by
    intro z
    rcases St.luF_ge T 36 4 with ⟨-, q⟩ | ⟨p, -, -, q, -⟩
    · exact absurd ((b2 k hk).mp (q k (by omega) (by omega))) (by omega)
    · have e : T.luF 36 4 = -1 := z
      rw [q] at e
      omega
  refine ⟨⟨?_, ?_, hlu⟩, ?_⟩
  · by_cases sk : S.has k
    · obtain ⟨e1, e2⟩ := h1 sk
      rw [e1, e2]
      exact hS.sq hk
    · exact (h2 sk).2
  · rcases St.atF_ge T x y 40 0 with ⟨z, -⟩ | ⟨q, -, q1, -, q3, q4, q5⟩
    · exact z
    · exfalso
      have hq : q < 40 := by omega
      have hqk := (b2 q hq).mp q3
      by_cases sk : S.has k
      · obtain ⟨e1, e2⟩ := h1 sk
        by_cases sq : S.has q
        · obtain ⟨f1, f2⟩ := b5 q hqk sq
          have := hS.M.1.2.1 q k hq hk sq sk (by omega) (by omega)
          omega
        · exact (b6 q hqk sq).1 k hk sk ⟨by omega, by omega⟩
      · exact (h2 sk).1 q hq q3 ⟨q4, q5⟩
  · obtain ⟨p, p1, p2, p3, p4, p5⟩ := St.lu_ok hlu
    rw [p1]
    have : ¬ p < k := fun z => p4 ((b2 p p3).mpr z)
    have : p ≤ k := by
      apply Classical.byContradiction
      intro z
      have := (b2 k hk).mp (p5 k hk4 (by omega))
      omega
    omega
theorem bes1_step {S T R : St} (hT : T.Ok) {k : Nat} (h : bes1 S T k) (hk : k < 40) {x y : Int} (h1 : S.has k → x = S.xs k ∧ y = S.ys k) (h2 : ¬ S.has k → (∀ i : Nat, i < 40 → S.has i → ¬ (S.xs i = x ∧ S.ys i = y)) ∧ (-1000 < x ∧ x < 1000 ∧ -1000 < y ∧ y < 1000)) (hl : T.laid R k x y) (hr : (T.u_hs (uZ T.hs k 0)).rst R) : bes1 S R (k + 1) := by
  obtain ⟨b1, b2, b3, b4, b5, b6⟩ := h
  have hnk : ¬ T.has k := fun z => by have := (b2 k hk).mp z; omega
  have hl9 := hl
  obtain ⟨lx, ly, lt, -⟩ := hl9
  obtain ⟨r1, -, -, r4, -⟩ := hr
  have r1 : R.hs = uZ T.hs k 0 := r1
  have r4 : R.hn = T.hn := r4
  refine ⟨St.rim_laid hT b1 hnk hl, fun j hj => ?_, fun j hj => ?_, by rw [r4, b4], fun j hj sj => ?_, fun j hj sj => ?_⟩
  · have e : R.has j ↔ (T.has j ∨ j = k) := by
      unfold St.has
      rw [lt, bt_set (by omega), Bool.or_eq_true, decide_eq_true_iff]
    rw [e, b2 j hj]
    omega
  · rw [r1]
    by_cases e : j = k
    · rw [e, uZ_at]
    · rw [uZ_ne e]; exact b3 j (by omega)
  · rw [lx, ly]
    by_cases e : j = k
    · subst e
      rw [uZ_at, uZ_at]
      exact h1 sj
    · rw [uZ_ne e, uZ_ne e]; exact b5 j (by omega) sj
  · rw [lx, ly]
    by_cases e : j = k
    · subst e
      rw [uZ_at, uZ_at]
      exact h2 sj
    · rw [uZ_ne e, uZ_ne e]; exact b6 j (by omega) sj
/-- the spare ones ahead of k are taken out -/
def bes2 (S T : St) (n k : Nat) : Prop := T.rim ∧ (∀ j : Nat, j < 40 → (T.has j ↔ j < n ∧ (j < k → S.has j))) ∧ (∀ j : Nat, j < n → T.hs j = 0) ∧ T.hn = 0 ∧ (∀ j : Nat, j < n → S.has j → T.xs j = S.xs j ∧ T.ys j = S.ys j) ∧ (∀ j : Nat, j < n → ¬ S.has j → (-1000 < T.xs j ∧ T.xs j < 1000 ∧ -1000 < T.ys j ∧ T.ys j < 1000))
theorem bes2_0 {S T : St} (hS : S.Ok) {n : Nat} (h : bes1 S T n) : bes2 S T n 4 := by
  obtain ⟨b1, b2, b3, b4, b5, b6⟩ := h
  obtain ⟨cs, -⟩ := hS.Co
  refine ⟨b1, fun j hj => ?_, b3, b4, b5, fun j hj sj => (b6 j hj sj).2⟩
  rw [b2 j hj]
  refine ⟨fun z => ⟨z, fun z4 => ?_⟩, fun z => z.1⟩
  have : j = 0 ∨ j = 1 ∨ j = 2 ∨ j = 3 := by omega
  rcases this with rfl | rfl | rfl | rfl
  · exact cs.1
  · exact cs.2.1
  · exact cs.2.2.1
  · exact cs.2.2.2
theorem bes2_keep {S T : St} {n k : Nat} (h : bes2 S T n k) (sk : S.has k) : bes2 S T n (k + 1) := by
  obtain ⟨b1, b2, b3⟩ := h
  refine ⟨b1, fun j hj => ?_, b3⟩
  rw [b2 j hj]
  refine ⟨fun z => ⟨z.1, fun z2 => ?_⟩, fun z => ⟨z.1, fun z2 => z.2 (by omega)⟩⟩
  by_cases e : j = k
  · rw [e]; exact sk
  · exact z.2 (by omega)
theorem bes2_loose {S T : St} (hT : T.Ok) {n k : Nat} (h : bes2 S T n k) (hkn : k < n) (hn : n ≤ 40) (sk : ¬ S.has k) : T.has k ∧ T.fx k = lI 0 := by
  obtain ⟨b1, b2, b3, b4, b5, b6⟩ := h
  refine ⟨(b2 k (by omega)).mpr ⟨hkn, fun z => absurd z (Nat.lt_irrefl k)⟩, ?_⟩
  have hi := b6 k hkn sk
  apply bt_ext
  intro j hj
  rw [show lI 0 = (0 : Int64) from rfl, bt_0]
  rcases Nat.lt_or_ge j 40 with c | c
  · apply Bool.eq_false_iff.mpr
    intro z
    have ho := b1 k j (by omega) c z
    unfold St.onside at ho
    omega
  · exact hT.2.2.2.2.2.2.2.1 k (by omega) j c
theorem bes2_drop {S T R : St} {n k : Nat} (h : bes2 S T n k) (hk : k < 40) (sk : ¬ S.has k) (hR : R.xs = T.xs ∧ R.ys = T.ys ∧ R.th = bClr T.th k ∧ R.fx = T.fx) (hr : T.rst R) : bes2 S R n (k + 1) := by
  obtain ⟨b1, b2, b3, b4, b5, b6⟩ := h
  obtain ⟨e1, e2, e3, e4⟩ := hR
  obtain ⟨r1, -, -, r4, -⟩ := hr
  refine ⟨?_, fun j hj => ?_, by rw [r1]; exact b3, by rw [r4]; exact b4, by rw [e1, e2]; exact b5, by rw [e1, e2]; exact b6⟩
  · intro u v hu hv hb
    unfold St.bound at hb
    rw [e4] at hb
    have := b1 u v hu hv hb
    unfold St.onside at this ⊢
    rw [e1, e2]
    exact this
  · have e : R.has j ↔ (T.has j ∧ j ≠ k) := by
      unfold St.has
      rw [e3, bt_clr (by omega), Bool.and_eq_true, Bool.not_eq_true', decide_eq_false_iff_not]
    rw [e, b2 j hj]
    constructor
    · rintro ⟨⟨z1, z2⟩, z3⟩
      exact ⟨z1, fun z4 => z2 (by omega)⟩
    · rintro ⟨z1, z2⟩
      refine ⟨⟨z1, fun z4 => z2 (by omega)⟩, fun e => ?_⟩
      subst e
      exact sk (z2 (by omega))
/-- the same points, the fixed ones of D told -/
def bes3 (S T : St) (D : Nat → Nat → Prop) : Prop := (∀ j : Nat, j < 40 → (T.has j ↔ S.has j)) ∧ (∀ j : Nat, j < 40 → S.has j → T.xs j = S.xs j ∧ T.ys j = S.ys j) ∧ (∀ j : Nat, j < 40 → S.has j → T.hs j = 0) ∧ T.hn = 0 ∧ ∀ u v : Nat, u < 40 → v < 40 → (T.bound u v ↔ S.how u v = 2 ∨ (S.how u v = 1 ∧ D u v))
theorem sight_of {S T : St} (hS : S.Ok) (hh : ∀ j : Nat, j < 40 → (T.has j → S.has j)) (hx : ∀ j : Nat, j < 40 → T.has j → T.xs j = S.xs j ∧ T.ys j = S.ys j) {u v : Nat} (hu : u < 40) (hv : v < 40) (tu : T.has u) (tv : T.has v) (hb : S.bound u v) : T.sightP u v 40 := by
  intro q hq ⟨sq, z⟩
  have hE := (hS.M.2.1.1 u v hu hv hb).2.2.2
  refine St.on_edge hS.M.1 hu hv hq (hh q hq sq) hE ?_
  have e := hx u hu tu
  have f := hx v hv tv
  have g := hx q hq sq
  unfold St.betw St.sd3 St.sd St.dot at z ⊢
  rw [e.1, e.2, f.1, f.2, g.1, g.2] at z
  exact z
theorem onside_of {S T : St} {u v : Nat} (e : T.xs u = S.xs u ∧ T.ys u = S.ys u) (f : T.xs v = S.xs v ∧ T.ys v = S.ys v) : T.onside u v ↔ S.onside u v := by
  unfold St.onside
  rw [e.1, e.2, f.1, f.2]
theorem bes3_0 {S T : St} (hS : S.Ok) (hT : T.Ok) {n : Nat} (hn : n ≤ 40) (hlast : ∀ j : Nat, n ≤ j → j < 40 → ¬ S.has j) (h : bes2 S T n n) : bes3 S T (fun _ _ => False) := by
  obtain ⟨b1, b2, b3, b4, b5, b6⟩ := h
  have hh : ∀ j : Nat, j < 40 → (T.has j ↔ S.has j) := fun j hj => by
    rw [b2 j hj]
    refine ⟨fun z => z.2 z.1, fun z => ?_⟩
    rcases Nat.lt_or_ge j n with c | c
    · exact ⟨c, fun _ => z⟩
    · exact absurd z (hlast j c hj)
  have hjn : ∀ j : Nat, j < 40 → S.has j → j < n := fun j hj sj => ((b2 j hj).mp ((hh j hj).mpr sj)).1
  have hx : ∀ j : Nat, j < 40 → S.has j → T.xs j = S.xs j ∧ T.ys j = S.ys j := fun j hj sj => b5 j (hjn j hj sj) sj
  refine ⟨hh, hx, fun j hj sj => b3 j (hjn j hj sj), b4, fun u v hu hv => ?_⟩
  constructor
  · intro hb
    obtain ⟨-, tu, tv, -⟩ := hT.M.2.1.1 u v hu hv hb
    have su := (hh u hu).mp tu
    have sv := (hh v hv).mp tv
    have ho := b1 u v hu hv hb
    have hoS : S.onside u v ∨ S.onside v u := by
      rw [← onside_of (hx u hu su) (hx v hv sv), ← onside_of (hx v hv sv) (hx u hu su)]
      exact ho
    have hP := sight_of (S := T) (T := S) hT (fun j hj sj => (hh j hj).mpr sj) (fun j hj sj => ⟨(hx j hj sj).1.symm, (hx j hj sj).2.symm⟩) hu hv su sv hb
    have hP2 := sight_of (S := T) (T := S) hT (fun j hj sj => (hh j hj).mpr sj) (fun j hj sj => ⟨(hx j hj sj).1.symm, (hx j hj sj).2.symm⟩) hv hu sv su ((hT.bound_sym hu hv).mp hb)
    refine Or.inl (St.how_2.mpr ⟨?_, hoS⟩)
    rcases hoS with z | z
    · exact St.side_bound hS.M hu hv su sv z hP
    · exact (hS.bound_sym hv hu).mp (St.side_bound hS.M hv hu sv su z hP2)
  · rintro (z | ⟨-, z⟩)
    · obtain ⟨z1, z2⟩ := St.how_2.mp z
      obtain ⟨-, su, sv, -⟩ := hS.M.2.1.1 u v hu hv z1
      have tu := (hh u hu).mpr su
      have tv := (hh v hv).mpr sv
      have hP := sight_of hS (fun j hj tj => (hh j hj).mp tj) (fun j hj tj => hx j hj ((hh j hj).mp tj)) hu hv tu tv z1
      have hP2 := sight_of hS (fun j hj tj => (hh j hj).mp tj) (fun j hj tj => hx j hj ((hh j hj).mp tj)) hv hu tv tu ((hS.bound_sym hu hv).mp z1)
      rcases z2 with z2 | z2
      · exact St.side_bound hT.M hu hv tu tv ((onside_of (hx u hu su) (hx v hv sv)).mpr z2) hP
      · exact (hT.bound_sym hv hu).mp (St.side_bound hT.M hv hu tv tu ((onside_of (hx v hv sv) (hx u hu su)).mpr z2) hP2)
    · exact z.elim
theorem opp_sw {x y : Int} (h : opp x y) : opp y x := by unfold opp at h ⊢; omega
theorem opp_ng {x y : Int} (h : opp x y) : opp (-x) (-y) := by unfold opp at h ⊢; omega
theorem St.noX2 {S : St} (hG : S.Geo) {a b c d : Nat} (ha : a < 40) (hb : b < 40) (hc : c < 40) (hd : d < 40) (h1 : S.E a b ∨ S.E b a) (h2 : S.E c d ∨ S.E d c) (x1 : opp (S.sd3 a b c) (S.sd3 a b d)) (x2 : opp (S.sd3 c d a) (S.sd3 c d b)) : False := by
  rcases h1 with h1 | h1
  · rcases h2 with h2 | h2
    · exact St.noX hG ha hb hc hd h1 h2 x1 x2
    · refine St.noX hG ha hb hd hc h1 h2 (opp_sw x1) ?_
      rw [St.sd3_swap S c d a, St.sd3_swap S c d b]
      exact opp_ng x2
  · have x1' : opp (S.sd3 b a c) (S.sd3 b a d) := by
      rw [St.sd3_swap S a b c, St.sd3_swap S a b d]
      exact opp_ng x1
    rcases h2 with h2 | h2
    · exact St.noX hG hb ha hc hd h1 h2 x1' (opp_sw x2)
    · refine St.noX hG hb ha hd hc h1 h2 (opp_sw x1') ?_
      rw [St.sd3_swap S c d a, St.sd3_swap S c d b]
      exact opp_sw (opp_ng x2)
theorem bes3_sight {S T : St} (hS : S.Ok) (hT : T.Ok) {D : Nat → Nat → Prop} (h : bes3 S T D) {p q : Nat} (hp : p < 40) (hq : q < 40) (hw : S.how p q = 1) {E : Nat} (hE : T.ec = (E : Int)) : T.sight p q E := by
  obtain ⟨b1, b2, b3, b4, b5⟩ := h
  obtain ⟨z1, z2⟩ := St.how_1.mp hw
  obtain ⟨-, sp, sq, hEd⟩ := hS.M.2.1.1 p q hp hq z1
  have tp := (b1 p hp).mpr sp
  have tq := (b1 q hq).mpr sq
  have hne : p ≠ q := by
    rintro rfl
    have hd : S.ap (p * 40 + p) ≠ -1 := by rcases hEd with z | z <;> exact z
    have a1 := hS.M.1.PM.1 (p * 40 + p) (by omega)
    obtain ⟨r, hr⟩ := Int.eq_ofNat_of_zero_le (show 0 ≤ S.ap (p * 40 + p) by omega)
    exact (St.sd3_ne (hS.M.1.PM.2.2 p p r hp hp (by omega) hr).2.2.2).1 rfl
  refine ⟨tp, tq, hne, sight_of hS (fun j hj tj => (b1 j hj).mp tj) (fun j hj tj => b2 j hj ((b1 j hj).mp tj)) hp hq tp tq z1, fun t ht => ?_⟩
  rintro ⟨w1, w2, w3⟩
  obtain ⟨r1, r2, -⟩ := hT.row_at hE ht
  have r1' : T.e1 t < 40 := by omega
  obtain ⟨-, tu, tv, -⟩ := hT.M.2.1.1 _ _ r1' r2 w1
  have su := (b1 _ r1').mp tu
  have sv := (b1 _ r2).mp tv
  have hbS : S.bound (T.e1 t) (T.e2 t) := by
    rcases (b5 _ _ r1' r2).mp w1 with z | z
    · exact (St.how_2.mp z).1
    · exact (St.how_1.mp z.1).1
  have e1 := b2 _ r1' su
  have e2 := b2 _ r2 sv
  have e3 := b2 p hp sp
  have e4 := b2 q hq sq
  refine St.noX2 hS.M.1 r1' r2 hp hq (hS.M.2.1.1 _ _ r1' r2 hbS).2.2.2 hEd ?_ ?_
  · unfold St.sd at w2
    rw [e1.1, e1.2, e2.1, e2.2, e3.1, e3.2, e4.1, e4.2] at w2
    exact w2
  · rw [e1.1, e1.2, e2.1, e2.2, e3.1, e3.2, e4.1, e4.2] at w3
    exact w3
theorem bes3_step {S T R : St} {D : Nat → Nat → Prop} (h : bes3 S T D) {p q : Nat} (hw : S.how p q = 1) (hw2 : S.how q p = 1) (hR : R.xs = T.xs ∧ R.ys = T.ys ∧ R.th = T.th ∧ ∀ x y : Nat, R.bound x y ↔ T.bound x y ∨ eU p q x y) (hr : T.rst R) : bes3 S R (fun u v => D u v ∨ eU p q u v) := by
  obtain ⟨b1, b2, b3, b4, b5⟩ := h
  obtain ⟨e1, e2, e3, e4⟩ := hR
  obtain ⟨r1, -, -, r4, -⟩ := hr
  refine ⟨fun j hj => by unfold St.has; rw [e3]; exact b1 j hj, by rw [e1, e2]; exact b2, by rw [r1]; exact b3, by rw [r4]; exact b4, fun u v hu hv => ?_⟩
  rw [e4 u v, b5 u v hu hv]
  constructor
  · rintro ((z | ⟨z1, z2⟩) | z)
    · exact Or.inl z
    · exact Or.inr ⟨z1, Or.inl z2⟩
    · refine Or.inr ⟨?_, Or.inr z⟩
      unfold eU at z
      rcases z with ⟨rfl, rfl⟩ | ⟨rfl, rfl⟩
      · exact hw
      · exact hw2
  · rintro (z | ⟨z1, z2 | z2⟩)
    · exact Or.inl (Or.inl z)
    · exact Or.inl (Or.inr ⟨z1, z2⟩)
    · exact Or.inr z2
theorem bes3_iff {S T : St} {D D' : Nat → Nat → Prop} (h : bes3 S T D) (hD : ∀ u v : Nat, u < 40 → v < 40 → S.how u v = 1 → (D u v ↔ D' u v)) : bes3 S T D' := by
  obtain ⟨b1, b2, b3, b4, b5⟩ := h
  refine ⟨b1, b2, b3, b4, fun u v hu hv => ?_⟩
  rw [b5 u v hu hv]
  constructor
  · rintro (z | ⟨z1, z2⟩)
    · exact Or.inl z
    · exact Or.inr ⟨z1, (hD u v hu hv z1).mp z2⟩
  · rintro (z | ⟨z1, z2⟩)
    · exact Or.inl z
    · exact Or.inr ⟨z1, (hD u v hu hv z1).mpr z2⟩
/-- heights ahead of k, holes ahead of n -/
def bes4 (S T : St) (k n : Nat) : Prop := (∀ j : Nat, j < 40 → (T.has j ↔ S.has j)) ∧ (∀ j : Nat, j < 40 → S.has j → T.xs j = S.xs j ∧ T.ys j = S.ys j) ∧ (∀ j : Nat, j < 40 → S.has j → T.hs j = if j < k then S.hs j else 0) ∧ T.hn = (n : Int) ∧ ∀ u v : Nat, u < 40 → v < 40 → T.how u v = S.how u v
theorem bes4_0 {S T : St} {D : Nat → Nat → Prop} (h : bes3 S T D) (hS : S.Ok) (hD : ∀ u v : Nat, u < 40 → v < 40 → S.how u v = 1 → D u v) : bes4 S T 0 0 := by
  obtain ⟨b1, b2, b3, b4, b5⟩ := h
  refine ⟨b1, b2, fun j hj sj => by rw [if_neg (Nat.not_lt_zero j)]; exact b3 j hj sj, b4, fun u v hu hv => ?_⟩
  refine St.how_eq ?_ (fun hb => ?_)
  · rw [b5 u v hu hv]
    constructor
    · rintro (z | ⟨z, -⟩)
      · exact (St.how_2.mp z).1
      · exact (St.how_1.mp z).1
    · intro z
      by_cases c : S.onside u v ∨ S.onside v u
      · exact Or.inl (St.how_2.mpr ⟨z, c⟩)
      · exact Or.inr ⟨St.how_1.mpr ⟨z, c⟩, hD u v hu hv (St.how_1.mpr ⟨z, c⟩)⟩
  · obtain ⟨-, su, sv, -⟩ := hS.M.2.1.1 u v hu hv hb
    rw [onside_of (b2 u hu su) (b2 v hv sv), onside_of (b2 v hv sv) (b2 u hu su)]
theorem bes4_skip {S T : St} {k n : Nat} (h : bes4 S T k n) (hz : S.has k → S.hs k = 0) : bes4 S T (k + 1) n := by
  obtain ⟨b1, b2, b3, b4, b5⟩ := h
  refine ⟨b1, b2, fun j hj sj => ?_, b4, b5⟩
  rw [b3 j hj sj]
  by_cases e : j = k
  · subst e
    rw [if_neg (Nat.lt_irrefl j), if_pos (Nat.lt_succ_self j)]
    exact (hz sj).symm
  · by_cases c : j < k
    · rw [if_pos c, if_pos (by omega)]
    · rw [if_neg c, if_neg (by omega)]
theorem bes4_height {S T : St} {k n : Nat} (h : bes4 S T k n) : bes4 S (T.u_hs (uZ T.hs k (S.hs k))) (k + 1) n := by
  obtain ⟨b1, b2, b3, b4, b5⟩ := h
  refine ⟨b1, b2, fun j hj sj => ?_, b4, fun u v hu hv => (St.how_eq Iff.rfl (fun _ => Iff.rfl)).trans (b5 u v hu hv)⟩
  show uZ T.hs k (S.hs k) j = _
  by_cases e : j = k
  · subst e
    rw [uZ_at, if_pos (Nat.lt_succ_self j)]
  · rw [uZ_ne e, b3 j hj sj]
    by_cases c : j < k
    · rw [if_pos c, if_pos (by omega)]
    · rw [if_neg c, if_neg (by omega)]
theorem bes4_hole {S T : St} {k n : Nat} (h : bes4 S T k n) (f1 f2 : Nat → Int) : bes4 S (((T.u_hx f1).u_hy f2).u_hn ((n : Int) + 1)) k (n + 1) := by
  obtain ⟨b1, b2, b3, b4, b5⟩ := h
  exact ⟨b1, b2, b3, rfl, fun u v hu hv => (St.how_eq Iff.rfl (fun _ => Iff.rfl)).trans (b5 u v hu hv)⟩
theorem bes4_end {S T : St} {X : Sh} (hR : Rel S X) (h : bes4 S T 40 X.2.2.1) : Rel (T.u_g X.2.2.2) X := by
  obtain ⟨b1, b2, b3, b4, b5⟩ := h
  refine ⟨fun k hk => (hR.1 k hk).trans (b1 k hk).symm, fun k hk sk => ?_, fun p q hp hq => ?_, ?_, rfl⟩
  · have sk' := (b1 k hk).mp sk
    obtain ⟨a1, a2, a3⟩ := hR.2.1 k hk sk'
    have e3 := b3 k hk sk'
    rw [if_pos hk] at e3
    exact ⟨a1.trans (b2 k hk sk').1.symm, a2.trans (b2 k hk sk').2.symm, a3.trans e3.symm⟩
  · rw [hR.2.2.1 p q hp hq, ← b5 p q hp hq]
    exact (St.how_eq Iff.rfl (fun _ => Iff.rfl))
  · exact b4.symm
