/-! WHAT WAITS: each edge once, with its bit. By hand. -/
theorem vpL_at (f : Nat → Int64) (k : Nat) (x : Int64) : vp_updL f k x k = x := if_pos rfl
theorem vpL_ne {f : Nat → Int64} {j k : Nat} {x : Int64} (h : j ≠ k) : vp_updL f k x j = f j := if_neg h
abbrev St.wt (S : St) (lo hi : Nat) : Prop := bt (S.wa lo) hi = true
/-- the row of what waits and its bits agree -/
def St.wq (S : St) : Prop := (∀ i : Nat, (i : Int) < S.qn → ∃ lo hi : Nat, lo < hi ∧ hi < 40 ∧ S.qu i = ((lo * 40 + hi : Nat) : Int) ∧ S.wt lo hi) ∧ (∀ i j : Nat, i < j → (j : Int) < S.qn → S.qu i ≠ S.qu j) ∧ (∀ lo hi : Nat, lo < hi → hi < 40 → S.wt lo hi → ∃ i : Nat, (i : Int) < S.qn ∧ S.qu i = ((lo * 40 + hi : Nat) : Int)) ∧ 0 ≤ S.qn
theorem St.wq_lt {S : St} (h : S.wq) : S.qn < 800 := by
  rcases Int.lt_or_le S.qn 800 with z | z
  · exact z
  · exfalso
    -- lo < hi: code lo * 40 + hi below 800, or turned round
    let g : Nat → Nat := fun e => if e / 40 < 20 then e - 1 else (39 - e / 40) * 40 + (39 - e % 40) - 1
    obtain ⟨i, j, h1, h2, h3⟩ := php 799 (fun i => g (S.qu i).toNat) (fun i hi => by
      obtain ⟨lo, hi2, k1, k2, k3, -⟩ := h.1 i (by omega)
      show (if (S.qu i).toNat / 40 < 20 then (S.qu i).toNat - 1 else (39 - (S.qu i).toNat / 40) * 40 + (39 - (S.qu i).toNat % 40) - 1) < 799
      rw [k3, Int.toNat_natCast]
      split <;> omega)
    obtain ⟨lo, hi, k1, k2, k3, -⟩ := h.1 i (by omega)
    obtain ⟨lo', hi', l1, l2, l3, -⟩ := h.1 j (by omega)
    have hne := h.2.1 i j h1 (by omega)
    rw [k3, l3] at hne
    have h4 : (if (S.qu i).toNat / 40 < 20 then (S.qu i).toNat - 1 else (39 - (S.qu i).toNat / 40) * 40 + (39 - (S.qu i).toNat % 40) - 1) = (if (S.qu j).toNat / 40 < 20 then (S.qu j).toNat - 1 else (39 - (S.qu j).toNat / 40) * 40 + (39 - (S.qu j).toNat % 40) - 1) := h3
    rw [k3, l3, Int.toNat_natCast, Int.toNat_natCast] at h4
    apply hne
    split at h4 <;> split at h4 <;> omega
theorem St.aw0_wq {S : St} (h : S.wq) {a b : Nat} (hab : a < b) (hb : b < 40) : (S.aw0 a b).wq ∧ (S.aw0 a b).wt a b ∧ (∀ x y : Nat, S.wt x y → (S.aw0 a b).wt x y) ∧ (S.aw0 a b).qn ≤ S.qn + 1 := by
  have hlt := St.wq_lt h
  by_cases c0 : bt (S.wa a) b = true
  · have e : S.aw0 a b = S := if_pos (Or.inl c0)
    rw [e]
    exact ⟨h, c0, fun x y z => z, by omega⟩
  · have e : S.aw0 a b = ((S.u_wa (vp_updL S.wa a (bSet (S.wa a) b))).u_qu (uZ S.qu S.qn.toNat ((a : Int) * 40 + (b : Int)))).u_qn (S.qn + 1) := if_neg (fun z => z.elim c0 (by omega))
    obtain ⟨h1, h2, h3, h4⟩ := h
    have eq : ∀ x y : Nat, bt (vp_updL S.wa a (bSet (S.wa a) b) x) y = (bt (S.wa x) y || (decide (x = a) && decide (y = b))) := by
      intro x y
      by_cases c1 : x = a
      · subst c1
        rw [vpL_at, bt_set (by omega)]
        simp
      · rw [vpL_ne c1]
        simp [c1]
    have wm : ∀ x y : Nat, S.wt x y → bt (vp_updL S.wa a (bSet (S.wa a) b) x) y = true := by
      intro x y z
      rw [eq, show bt (S.wa x) y = true from z]
      rfl
    have wn : bt (vp_updL S.wa a (bSet (S.wa a) b) a) b = true := by
      rw [eq]
      simp
    rw [e]
    refine ⟨⟨?_, ?_, ?_, ?_⟩, wn, wm, ?_⟩
    · intro i hi
      have hi2 : (i : Int) < S.qn + 1 := hi
      show ∃ lo hi : Nat, lo < hi ∧ hi < 40 ∧ uZ S.qu S.qn.toNat ((a : Int) * 40 + (b : Int)) i = ((lo * 40 + hi : Nat) : Int) ∧ bt (vp_updL S.wa a (bSet (S.wa a) b) lo) hi = true
      by_cases c1 : i = S.qn.toNat
      · refine ⟨a, b, hab, hb, ?_, wn⟩
        rw [c1, uZ_at]
        omega
      · obtain ⟨lo, hi3, k1, k2, k3, k4⟩ := h1 i (by omega)
        exact ⟨lo, hi3, k1, k2, by rw [uZ_ne c1]; exact k3, wm _ _ k4⟩
    · intro i j hij hj
      have hj2 : (j : Int) < S.qn + 1 := hj
      show uZ S.qu S.qn.toNat ((a : Int) * 40 + (b : Int)) i ≠ uZ S.qu S.qn.toNat ((a : Int) * 40 + (b : Int)) j
      rw [uZ_ne (by omega : i ≠ S.qn.toNat)]
      by_cases c1 : j = S.qn.toNat
      · rw [c1, uZ_at]
        obtain ⟨lo, hi3, k1, k2, k3, k4⟩ := h1 i (by omega)
        rw [k3]
        intro z
        have z1 : lo = a := by omega
        have z2 : hi3 = b := by omega
        subst z1
        subst z2
        exact c0 k4
      · rw [uZ_ne c1]
        exact h2 i j hij (by omega)
    · intro lo hi k1 k2 k3
      have k3' : bt (vp_updL S.wa a (bSet (S.wa a) b) lo) hi = true := k3
      show ∃ i : Nat, (i : Int) < S.qn + 1 ∧ uZ S.qu S.qn.toNat ((a : Int) * 40 + (b : Int)) i = ((lo * 40 + hi : Nat) : Int)
      rw [eq] at k3'
      by_cases c1 : bt (S.wa lo) hi = true
      · obtain ⟨i, l1, l2⟩ := h3 lo hi k1 k2 c1
        exact ⟨i, by omega, by rw [uZ_ne (by omega : i ≠ S.qn.toNat)]; exact l2⟩
      · have z : lo = a ∧ hi = b := by
          simp only [Bool.or_eq_true, Bool.and_eq_true, decide_eq_true_eq] at k3'
          exact k3'.resolve_left c1
        refine ⟨S.qn.toNat, by omega, ?_⟩
        rw [uZ_at, z.1, z.2]
        omega
    · show 0 ≤ S.qn + 1
      omega
    · show S.qn + 1 ≤ S.qn + 1
      omega
/-- the bit of an edge, told in either way -/
def St.wtu (S : St) (x y : Nat) : Prop := if x < y then S.wt x y else S.wt y x
theorem St.wtu_lt {S : St} {x y : Nat} (h : x < y) (k : S.wtu x y) : S.wt x y := by
  unfold St.wtu at k
  rw [if_pos h] at k
  exact k
theorem St.wtu_sym {S : St} {x y : Nat} (hn : x ≠ y) (k : S.wtu x y) : S.wtu y x := by
  unfold St.wtu at *
  by_cases c0 : x < y
  · rw [if_pos c0] at k; rw [if_neg (by omega)]; exact k
  · rw [if_neg c0] at k; rw [if_pos (by omega)]; exact k
theorem St.wtu_mono {S T : St} (h : ∀ x y : Nat, S.wt x y → T.wt x y) {x y : Nat} (k : S.wtu x y) : T.wtu x y := by
  unfold St.wtu at *
  split
  · rename_i c0; rw [if_pos c0] at k; exact h _ _ k
  · rename_i c0; rw [if_neg c0] at k; exact h _ _ k
/-- more waits than before -/
def St.wle (S T : St) (n : Int) : Prop := T.wq ∧ (∀ x y : Nat, S.wt x y → T.wt x y) ∧ T.qn ≤ S.qn + n
theorem St.wle.trans {S T R : St} {m n : Int} (h : S.wle T m) (k : T.wle R n) : S.wle R (m + n) := ⟨k.1, fun x y z => k.2.1 x y (h.2.1 x y z), by have := h.2.2; have := k.2.2; omega⟩
theorem St.aw_wq {S : St} (h : S.wq) {a b : Nat} (ha : a < 40) (hb : b < 40) (hn : a ≠ b) : S.wle (S.aw a b) 1 ∧ (S.aw a b).wtu a b := by
  by_cases c0 : a < b
  · have e : S.aw a b = S.aw0 a b := if_pos c0
    obtain ⟨k1, k2, k3, k4⟩ := St.aw0_wq h c0 hb
    rw [e]
    exact ⟨⟨k1, k3, k4⟩, by unfold St.wtu; rw [if_pos c0]; exact k2⟩
  · have e : S.aw a b = S.aw0 b a := if_neg c0
    obtain ⟨k1, k2, k3, k4⟩ := St.aw0_wq h (show b < a by omega) ha
    rw [e]
    exact ⟨⟨k1, k3, k4⟩, by unfold St.wtu; rw [if_neg c0]; exact k2⟩
theorem St.put_wq {S : St} (h : S.wq) {a b c : Nat} (ha : a < 40) (hb : b < 40) (hc : c < 40) (hn : nodup3 a b c) : S.wle (S.put a b c) 3 ∧ (S.put a b c).wtu a b ∧ (S.put a b c).wtu b c ∧ (S.put a b c).wtu c a := by
  obtain ⟨n1, n2, n3⟩ := hn
  have h0 : (S.lay a b c).wq := h
  obtain ⟨k1, k2⟩ := St.aw_wq h0 ha hb n1
  obtain ⟨l1, l2⟩ := St.aw_wq k1.1 hb hc n2
  obtain ⟨m1, m2⟩ := St.aw_wq l1.1 hc ha n3
  have t := (k1.trans l1).trans m1
  refine ⟨⟨t.1, t.2.1, t.2.2⟩, ?_, ?_, m2⟩
  · exact St.wtu_mono m1.2.1 (St.wtu_mono l1.2.1 k2)
  · exact St.wtu_mono m1.2.1 l2
theorem St.flip_wq {S : St} (h : S.wq) {a b c d : Nat} (ha : a < 40) (hb : b < 40) (hc : c < 40) (hd : d < 40) (hn : a ≠ b ∧ b ≠ c ∧ c ≠ a ∧ a ≠ d ∧ b ≠ d ∧ c ≠ d) : S.wle (S.flip a b c d) 6 ∧ (S.flip a b c d).wtu a d ∧ (S.flip a b c d).wtu d c ∧ (S.flip a b c d).wtu c a ∧ (S.flip a b c d).wtu d b ∧ (S.flip a b c d).wtu b c := by
  obtain ⟨n1, n2, n3, n4, n5, n6⟩ := hn
  have h0 : (S.u_ap (uZ (uZ S.ap (a * 40 + b) (-1)) (b * 40 + a) (-1))).wq := h
  obtain ⟨k1, k2, k3, k4⟩ := St.put_wq h0 ha hd hc ⟨n4, fun z => n6 z.symm, n3⟩
  obtain ⟨l1, l2, l3, l4⟩ := St.put_wq k1.1 hd hb hc ⟨fun z => n5 z.symm, n2, n6⟩
  have t := k1.trans l1
  exact ⟨⟨t.1, t.2.1, t.2.2⟩, St.wtu_mono l1.2.1 k2, St.wtu_mono l1.2.1 k3, St.wtu_mono l1.2.1 k4, l2, l3⟩
/-- the last one taken off -/
theorem St.pop_wq {S : St} (h : S.wq) (hq : 0 < S.qn) : ∃ a b : Nat, a < b ∧ b < 40 ∧ (S.qu (S.qn - 1).toNat).toNat / 40 = a ∧ (S.qu (S.qn - 1).toNat).toNat % 40 = b ∧ (S.popW a b).wq ∧ (∀ x y : Nat, S.wt x y → (S.popW a b).wt x y ∨ (x = a ∧ y = b)) := by
  obtain ⟨h1, h2, h3, h4⟩ := h
  obtain ⟨a, b, k1, k2, k3, k4⟩ := h1 (S.qn - 1).toNat (by omega)
  refine ⟨a, b, k1, k2, by rw [k3]; omega, by rw [k3]; omega, ⟨?_, ?_, ?_, ?_⟩, ?_⟩
  · intro i hi
    have hi2 : (i : Int) < S.qn - 1 := hi
    obtain ⟨lo, hi3, l1, l2, l3, l4⟩ := h1 i (by omega)
    refine ⟨lo, hi3, l1, l2, l3, ?_⟩
    show bt (vp_updL S.wa a (bClr (S.wa a) b) lo) hi3 = true
    have hne := h2 i (S.qn - 1).toNat (by omega) (by omega)
    rw [l3, k3] at hne
    by_cases c1 : lo = a
    · subst c1
      rw [vpL_at, bt_clr (by omega), show bt (S.wa lo) hi3 = true from l4]
      have : hi3 ≠ b := fun z => hne (by subst z; rfl)
      simp [this]
    · rw [vpL_ne c1]
      exact l4
  · intro i j hij hj
    have hj2 : (j : Int) < S.qn - 1 := hj
    exact h2 i j hij (by omega)
  · intro lo hi l1 l2 l3
    have l3' : bt (vp_updL S.wa a (bClr (S.wa a) b) lo) hi = true := l3
    have l4 : S.wt lo hi ∧ ¬ (lo = a ∧ hi = b) := by
      by_cases c1 : lo = a
      · subst c1
        rw [vpL_at, bt_clr (by omega)] at l3'
        simp only [Bool.and_eq_true, Bool.not_eq_true', decide_eq_false_iff_not] at l3'
        exact ⟨l3'.1, fun z => l3'.2 z.2⟩
      · rw [vpL_ne c1] at l3'
        exact ⟨l3', fun z => c1 z.1⟩
    obtain ⟨i, m1, m2⟩ := h3 lo hi l1 l2 l4.1
    refine ⟨i, ?_, m2⟩
    show (i : Int) < S.qn - 1
    rcases Int.lt_or_le (i : Int) (S.qn - 1) with z | z
    · exact z
    · exfalso
      have : i = (S.qn - 1).toNat := by omega
      rw [this, k3] at m2
      exact l4.2 ⟨by omega, by omega⟩
  · show 0 ≤ S.qn - 1
    omega
  · intro x y hxy
    show bt (vp_updL S.wa a (bClr (S.wa a) b) x) y = true ∨ _
    by_cases c1 : x = a
    · subst c1
      by_cases c2 : y = b
      · exact Or.inr ⟨rfl, c2⟩
      · left
        rw [vpL_at, bt_clr (by omega), show bt (S.wa x) y = true from hxy]
        simp [c2]
    · left
      rw [vpL_ne c1]
      exact hxy
