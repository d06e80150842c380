/-! THE CLASS: the rows of triangles and edges, made anew. Rows laid by program (wip/p63/wk.py, mk33.py). -/
/-- code e = 40 a + b: the first edge of a triangle, told from its least corner on; an edge -/
def St.isTri (S : St) (e : Nat) : Prop := e / 40 < e % 40 ∧ S.has (e / 40) ∧ ((e / 40 : Nat) : Int) < S.ap e
def St.isEdg (S : St) (e : Nat) : Prop := e / 40 < e % 40 ∧ S.has (e / 40) ∧ (S.ap e ≠ -1 ∨ S.ap (e % 40 * 40 + e / 40) ≠ -1)
noncomputable def St.tl (S : St) (n : Nat) : List Nat := (List.range n).filter (fun e => @decide (S.isTri e) (Classical.propDecidable _))
noncomputable def St.el (S : St) (n : Nat) : List Nat := (List.range n).filter (fun e => @decide (S.isEdg e) (Classical.propDecidable _))
theorem St.tl_yes {S : St} {n : Nat} (hz : S.isTri n) : S.tl (n + 1) = S.tl n ++ [n] := by
  unfold St.tl
  rw [List.range_succ, List.filter_append]
  simp [hz]
theorem St.tl_no {S : St} {n : Nat} (hz : ¬ S.isTri n) : S.tl (n + 1) = S.tl n := by
  unfold St.tl
  rw [List.range_succ, List.filter_append]
  simp [hz]
theorem St.el_yes {S : St} {n : Nat} (hz : S.isEdg n) : S.el (n + 1) = S.el n ++ [n] := by
  unfold St.el
  rw [List.range_succ, List.filter_append]
  simp [hz]
theorem St.el_no {S : St} {n : Nat} (hz : ¬ S.isEdg n) : S.el (n + 1) = S.el n := by
  unfold St.el
  rw [List.range_succ, List.filter_append]
  simp [hz]
theorem St.tl_skip {S : St} {n : Nat} : ∀ (k : Nat), (∀ e : Nat, n ≤ e → e < n + k → ¬ S.isTri e) → S.tl (n + k) = S.tl n := by
  intro k
  induction k with
  | zero => intro _; rfl
  | succ k ih =>
    intro hz
    rw [← Nat.add_assoc, St.tl_no (hz (n + k) (by omega) (by omega))]
    exact ih (fun e h1 h2 => hz e h1 (by omega))
theorem St.el_skip {S : St} {n : Nat} : ∀ (k : Nat), (∀ e : Nat, n ≤ e → e < n + k → ¬ S.isEdg e) → S.el (n + k) = S.el n := by
  intro k
  induction k with
  | zero => intro _; rfl
  | succ k ih =>
    intro hz
    rw [← Nat.add_assoc, St.el_no (hz (n + k) (by omega) (by omega))]
    exact ih (fun e h1 h2 => hz e h1 (by omega))
theorem St.tl_mem {S : St} {n e : Nat} : e ∈ S.tl n ↔ e < n ∧ S.isTri e := by
  unfold St.tl
  simp
theorem St.el_mem {S : St} {n e : Nat} : e ∈ S.el n ↔ e < n ∧ S.isEdg e := by
  unfold St.el
  simp
theorem St.tl_len (S : St) {n k : Nat} (h : n ≤ k) : (S.tl n).length ≤ (S.tl k).length := by
  obtain ⟨j, rfl⟩ := Nat.exists_eq_add_of_le h
  induction j with
  | zero => exact Nat.le_refl _
  | succ j ih =>
    refine Nat.le_trans (ih (by omega)) ?_
    rw [← Nat.add_assoc]
    by_cases c0 : S.isTri (n + j)
    · rw [St.tl_yes c0]; simp
    · rw [St.tl_no c0]; exact Nat.le_refl _
theorem St.el_len (S : St) {n k : Nat} (h : n ≤ k) : (S.el n).length ≤ (S.el k).length := by
  obtain ⟨j, rfl⟩ := Nat.exists_eq_add_of_le h
  induction j with
  | zero => exact Nat.le_refl _
  | succ j ih =>
    refine Nat.le_trans (ih (by omega)) ?_
    rw [← Nat.add_assoc]
    by_cases c0 : S.isEdg (n + j)
    · rw [St.el_yes c0]; simp
    · rw [St.el_no c0]; exact Nat.le_refl _
/-- what stands behind the edges: nothing, or a point; a triangle told from each of its edges -/
def St.okA (S : St) : Prop := ∀ j : Nat, j < 1600 → -1 ≤ S.ap j ∧ S.ap j < 40
def St.cyc (S : St) : Prop := ∀ a b c : Nat, a < 40 → b < 40 → c < 40 → S.ap (a * 40 + b) = (c : Int) → S.ap (b * 40 + c) = (a : Int) ∧ S.ap (c * 40 + a) = (b : Int)
def St.okC (S : St) : Prop := ∀ j : Nat, j < 222 → 0 ≤ S.co j ∧ S.co j < 40
def St.okN (S : St) : Prop := ∀ j : Nat, j < 226 → 0 ≤ S.en j ∧ S.en j < 40
/-- the rows hold what is below code n -/
def St.lstE0 (S : St) (n : Nat) : Prop := S.ec = ((S.el n).length : Int) ∧ (∀ t e : Nat, (S.el n)[t]? = some e → S.en (2 * t) = ((e / 40 : Nat) : Int) ∧ S.en (2 * t + 1) = ((e % 40 : Nat) : Int)) ∧
  ∀ a b : Nat, a < 40 → b < 40 → (bt (S.ne a) b = true ↔ ∃ e : Nat, e < n ∧ S.isEdg e ∧ ((e / 40 = a ∧ e % 40 = b) ∨ (e / 40 = b ∧ e % 40 = a)))
def St.lstT0 (S : St) (n : Nat) : Prop := S.tn = ((S.tl n).length : Int) ∧ (∀ t e : Nat, (S.tl n)[t]? = some e → S.co (3 * t) = ((e / 40 : Nat) : Int) ∧ S.co (3 * t + 1) = ((e % 40 : Nat) : Int) ∧ S.co (3 * t + 2) = S.ap e) ∧
  ∀ t e : Nat, (S.tl n)[t]? = some e → S.ow e = (t : Int) ∧ S.ow (e % 40 * 40 + (S.ap e).toNat) = (t : Int) ∧ S.ow ((S.ap e).toNat * 40 + e / 40) = (t : Int)
def St.addE (S : St) (a b t : Nat) : St := sM S.xs S.ys S.hs S.fx S.hx S.hy S.th S.hn S.g S.ap S.ow S.co (uZ (uZ S.en (2 * t) a) (2 * t + 1) b) (vp_updL (vp_updL S.ne a (bSet (S.ne a) b)) b (bSet (vp_updL S.ne a (bSet (S.ne a) b) b) a)) S.rd S.tn (S.ec + 1) S.li S.wa S.qu S.qn
def St.addT (S : St) (a b c t : Nat) : St := sM S.xs S.ys S.hs S.fx S.hx S.hy S.th S.hn S.g S.ap (ap3 S.ow a b c S.tn S.tn S.tn) (uZ (uZ (uZ S.co (3 * t) a) (3 * t + 1) b) (3 * t + 2) c) S.en S.ne S.rd (S.tn + 1) S.ec S.li S.wa S.qu S.qn
theorem St.lstE0_add {S : St} {a b t : Nat} (ha : a < 40) (hb : b < 40) (hab : a < b) (h : S.lstE0 (a * 40 + b)) (he : S.isEdg (a * 40 + b)) (ht : S.ec = (t : Int)) : (S.addE a b t).lstE0 (a * 40 + b + 1) := by
  obtain ⟨h1, h2, h3⟩ := h
  have hl : t = (S.el (a * 40 + b)).length := by omega
  have e1 : (a * 40 + b) / 40 = a := by omega
  have e2 : (a * 40 + b) % 40 = b := by omega
  have hel : (S.addE a b t).el (a * 40 + b + 1) = S.el (a * 40 + b) ++ [a * 40 + b] := St.el_yes (S := S) he
  refine ⟨?_, ?_, ?_⟩
  · rw [hel]
    show S.ec + 1 = _
    simp
    omega
  · intro j e hj
    rw [hel] at hj
    show uZ (uZ S.en (2 * t) a) (2 * t + 1) b (2 * j) = _ ∧ uZ (uZ S.en (2 * t) a) (2 * t + 1) b (2 * j + 1) = _
    by_cases hjl : j < (S.el (a * 40 + b)).length
    · rw [List.getElem?_append_left hjl] at hj
      rw [uZ_ne (by omega), uZ_ne (by omega), uZ_ne (by omega), uZ_ne (by omega)]
      exact h2 j e hj
    · rw [List.getElem?_append_right (by omega)] at hj
      have hj0 : j - (S.el (a * 40 + b)).length = 0 := by
        have := (List.getElem?_eq_some_iff.mp hj).1
        simp at this
        omega
      rw [hj0] at hj
      simp at hj
      subst hj
      have : j = t := by omega
      subst this
      rw [uZ_ne (by omega), uZ_at, uZ_at, e1, e2]
      exact ⟨rfl, rfl⟩
  · intro x y hx hy
    show bt (vp_updL (vp_updL S.ne a (bSet (S.ne a) b)) b (bSet (vp_updL S.ne a (bSet (S.ne a) b) b) a) x) y = true ↔ _
    have key : bt (vp_updL (vp_updL S.ne a (bSet (S.ne a) b)) b (bSet (vp_updL S.ne a (bSet (S.ne a) b) b) a) x) y = (bt (S.ne x) y || (decide (x = a ∧ y = b) || decide (x = b ∧ y = a))) := by
      have hne : b ≠ a := by omega
      unfold vp_updL
      rw [if_neg hne]
      by_cases c1 : x = b
      · subst c1
        rw [if_pos rfl, bt_set (by omega)]
        have : ¬ (x = a ∧ y = x) := fun z => hne z.1
        simp [this]
      · rw [if_neg c1]
        by_cases c2 : x = a
        · subst c2
          rw [if_pos rfl, bt_set (by omega)]
          have : ¬ (x = b ∧ y = x) := fun z => c1 z.1
          simp [this]
        · rw [if_neg c2]
          simp [c1, c2]
    rw [key]
    simp only [Bool.or_eq_true, decide_eq_true_eq]
    rw [h3 x y hx hy]
    constructor
    · rintro (⟨e, g1, g2, g3⟩ | ⟨g1, g2⟩ | ⟨g1, g2⟩)
      · exact ⟨e, by omega, g2, g3⟩
      · exact ⟨a * 40 + b, by omega, he, Or.inl ⟨by omega, by omega⟩⟩
      · exact ⟨a * 40 + b, by omega, he, Or.inr ⟨by omega, by omega⟩⟩
    · rintro ⟨e, g1, g2, g3⟩
      by_cases g : e < a * 40 + b
      · exact Or.inl ⟨e, g, g2, g3⟩
      · have : e = a * 40 + b := by omega
        subst this
        rw [e1, e2] at g3
        rcases g3 with ⟨z1, z2⟩ | ⟨z1, z2⟩
        · exact Or.inr (Or.inl ⟨z1.symm, z2.symm⟩)
        · exact Or.inr (Or.inr ⟨z2.symm, z1.symm⟩)
theorem St.lstE0_no {S : St} {n : Nat} (h : S.lstE0 n) (he : ¬ S.isEdg n) : S.lstE0 (n + 1) := by
  obtain ⟨h1, h2, h3⟩ := h
  have hel := St.el_no (S := S) he
  refine ⟨by rw [hel]; exact h1, by rw [hel]; exact h2, fun a b ha hb => ?_⟩
  rw [h3 a b ha hb]
  constructor
  · rintro ⟨e, g1, g2⟩
    exact ⟨e, by omega, g2⟩
  · rintro ⟨e, g1, g2, g3⟩
    refine ⟨e, ?_, g2, g3⟩
    have : e ≠ n := fun z => he (z ▸ g2)
    omega
theorem St.lstE0_skip {S : St} {n : Nat} : ∀ (k : Nat), S.lstE0 n → (∀ e : Nat, n ≤ e → e < n + k → ¬ S.isEdg e) → S.lstE0 (n + k) := by
  intro k
  induction k with
  | zero => intro h _; exact h
  | succ k ih => intro h hz; rw [← Nat.add_assoc]; exact St.lstE0_no (ih h (fun e h1 h2 => hz e h1 (by omega))) (hz _ (by omega) (by omega))
theorem St.lstT0_no {S : St} {n : Nat} (h : S.lstT0 n) (he : ¬ S.isTri n) : S.lstT0 (n + 1) := by
  unfold St.lstT0
  rw [St.tl_no he]
  exact h
theorem St.lstT0_skip {S : St} {n : Nat} : ∀ (k : Nat), S.lstT0 n → (∀ e : Nat, n ≤ e → e < n + k → ¬ S.isTri e) → S.lstT0 (n + k) := by
  intro k
  induction k with
  | zero => intro h _; exact h
  | succ k ih => intro h hz; rw [← Nat.add_assoc]; exact St.lstT0_no (ih h (fun e h1 h2 => hz e h1 (by omega))) (hz _ (by omega) (by omega))
theorem St.lstT0_add {S : St} {a b c t : Nat} (ha : a < 40) (hb : b < 40) (hc : c < 40) (hab : a < b) (hac : a < c) (hA : S.okA) (hcy : S.cyc) (h : S.lstT0 (a * 40 + b)) (hap : S.ap (a * 40 + b) = (c : Int)) (hs : S.has a) (ht : S.tn = (t : Int)) : (S.addT a b c t).lstT0 (a * 40 + b + 1) := by
  obtain ⟨h1, h2, h3⟩ := h
  have hl : t = (S.tl (a * 40 + b)).length := by omega
  have e1 : (a * 40 + b) / 40 = a := by omega
  have e2 : (a * 40 + b) % 40 = b := by omega
  have he : S.isTri (a * 40 + b) := ⟨by omega, by rw [e1]; exact hs, by rw [hap, e1]; omega⟩
  have hel : (S.addT a b c t).tl (a * 40 + b + 1) = S.tl (a * 40 + b) ++ [a * 40 + b] := St.tl_yes (S := S) he
  obtain ⟨k1, k2⟩ := hcy a b c ha hb hc hap
  have old : ∀ j e : Nat, (S.tl (a * 40 + b))[j]? = some e → e < a * 40 + b ∧ S.isTri e := fun j e hj => St.tl_mem.mp (List.mem_of_getElem? hj)
  refine ⟨?_, ?_, ?_⟩
  · rw [hel]
    show S.tn + 1 = _
    simp
    omega
  · intro j e hj
    rw [hel] at hj
    show uZ (uZ (uZ S.co (3 * t) a) (3 * t + 1) b) (3 * t + 2) c (3 * j) = _ ∧ uZ (uZ (uZ S.co (3 * t) a) (3 * t + 1) b) (3 * t + 2) c (3 * j + 1) = _ ∧ uZ (uZ (uZ S.co (3 * t) a) (3 * t + 1) b) (3 * t + 2) c (3 * j + 2) = S.ap e
    by_cases hjl : j < (S.tl (a * 40 + b)).length
    · rw [List.getElem?_append_left hjl] at hj
      rw [uZ_ne (by omega), uZ_ne (by omega), uZ_ne (by omega), uZ_ne (by omega), uZ_ne (by omega), uZ_ne (by omega), uZ_ne (by omega), uZ_ne (by omega), uZ_ne (by omega)]
      exact h2 j e hj
    · rw [List.getElem?_append_right (by omega)] at hj
      have hj0 : j - (S.tl (a * 40 + b)).length = 0 := by
        have := (List.getElem?_eq_some_iff.mp hj).1
        simp at this
        omega
      rw [hj0] at hj
      simp at hj
      subst hj
      have : j = t := by omega
      subst this
      rw [uZ_ne (by omega), uZ_ne (by omega), uZ_at, uZ_ne (by omega), uZ_at, uZ_at, e1, e2]
      exact ⟨rfl, rfl, hap.symm⟩
  · intro j e hj
    rw [hel] at hj
    show ap3 S.ow a b c S.tn S.tn S.tn e = _ ∧ ap3 S.ow a b c S.tn S.tn S.tn (e % 40 * 40 + (S.ap e).toNat) = _ ∧ ap3 S.ow a b c S.tn S.tn S.tn ((S.ap e).toNat * 40 + e / 40) = _
    by_cases hjl : j < (S.tl (a * 40 + b)).length
    · rw [List.getElem?_append_left hjl] at hj
      obtain ⟨g1, g2, g3, g4⟩ := old j e hj
      have g5 := hA e (by omega)
      obtain ⟨c', hc'⟩ := Int.eq_ofNat_of_zero_le (show 0 ≤ S.ap e by omega)
      have hce : (S.ap e).toNat = c' := by omega
      have hap' : S.ap (e / 40 * 40 + e % 40) = (c' : Int) := by rw [show e / 40 * 40 + e % 40 = e by omega]; exact hc'
      obtain ⟨k3, k4⟩ := hcy (e / 40) (e % 40) c' (by omega) (by omega) (by omega) hap'
      rw [hce]
      have far : ∀ q : Nat, S.ap q = (c' : Int) ∨ S.ap q = ((e / 40 : Nat) : Int) ∨ S.ap q = ((e % 40 : Nat) : Int) → True := fun _ _ => trivial
      have n1 : e ≠ b * 40 + c := fun z => by rw [← z, hc'] at k1; omega
      have n2 : e ≠ c * 40 + a := fun z => by omega
      have n3 : e % 40 * 40 + c' ≠ a * 40 + b := fun z => by rw [z, hap] at k3; omega
      have n4 : e % 40 * 40 + c' ≠ b * 40 + c := fun z => by rw [z, k1] at k3; omega
      have n5 : e % 40 * 40 + c' ≠ c * 40 + a := fun z => by rw [z, k2] at k3; omega
      have n6 : c' * 40 + e / 40 ≠ a * 40 + b := fun z => by omega
      have n7 : c' * 40 + e / 40 ≠ b * 40 + c := fun z => by rw [z, k1] at k4; omega
      have n8 : c' * 40 + e / 40 ≠ c * 40 + a := fun z => by rw [z, k2] at k4; omega
      have h4 := h3 j e hj
      rw [hce] at h4
      unfold ap3
      rw [uZ_ne n2, uZ_ne n1, uZ_ne (by omega), uZ_ne n5, uZ_ne n4, uZ_ne n3, uZ_ne n8, uZ_ne n7, uZ_ne n6]
      exact h4
    · rw [List.getElem?_append_right (by omega)] at hj
      have hj0 : j - (S.tl (a * 40 + b)).length = 0 := by
        have := (List.getElem?_eq_some_iff.mp hj).1
        simp at this
        omega
      rw [hj0] at hj
      simp at hj
      subst hj
      have hjt : j = t := by omega
      rw [hap, e1, e2, hjt, ← ht]
      unfold ap3
      rw [show ((c : Int)).toNat = c by omega, uZ_ne (by omega), uZ_ne (by omega), uZ_at, uZ_ne (by omega), uZ_at, uZ_at]
      exact ⟨rfl, rfl, rfl⟩
/-- the rows hold what is below code n, and every place of theirs holds a point's number -/
def St.lstE (S : St) (n : Nat) : Prop := S.lstE0 n ∧ S.okN
def St.lstT (S : St) (n : Nat) : Prop := S.lstT0 n ∧ S.okC
theorem St.lstE_add {S : St} {a b t : Nat} (ha : a < 40) (hb : b < 40) (hab : a < b) (h : S.lstE (a * 40 + b)) (he : S.isEdg (a * 40 + b)) (ht : S.ec = (t : Int)) : (S.addE a b t).lstE (a * 40 + b + 1) := by
  refine ⟨St.lstE0_add ha hb hab h.1 he ht, fun j hj => ?_⟩
  show 0 ≤ uZ (uZ S.en (2 * t) a) (2 * t + 1) b j ∧ uZ (uZ S.en (2 * t) a) (2 * t + 1) b j < 40
  have := h.2 j hj
  by_cases c1 : j = 2 * t + 1
  · rw [c1, uZ_at]; omega
  · rw [uZ_ne c1]
    by_cases c2 : j = 2 * t
    · rw [c2, uZ_at]; omega
    · rw [uZ_ne c2]; exact this
theorem St.lstE_no {S : St} {n : Nat} (h : S.lstE n) (he : ¬ S.isEdg n) : S.lstE (n + 1) := ⟨St.lstE0_no h.1 he, h.2⟩
theorem St.lstE_skip {S : St} {n : Nat} (k : Nat) (h : S.lstE n) (he : ∀ e : Nat, n ≤ e → e < n + k → ¬ S.isEdg e) : S.lstE (n + k) := ⟨St.lstE0_skip k h.1 he, h.2⟩
theorem St.lstT_no {S : St} {n : Nat} (h : S.lstT n) (he : ¬ S.isTri n) : S.lstT (n + 1) := ⟨St.lstT0_no h.1 he, h.2⟩
theorem St.lstT_skip {S : St} {n : Nat} (k : Nat) (h : S.lstT n) (he : ∀ e : Nat, n ≤ e → e < n + k → ¬ S.isTri e) : S.lstT (n + k) := ⟨St.lstT0_skip k h.1 he, h.2⟩
theorem St.lstT_add {S : St} {a b c t : Nat} (ha : a < 40) (hb : b < 40) (hc : c < 40) (hab : a < b) (hac : a < c) (hA : S.okA) (hcy : S.cyc) (h : S.lstT (a * 40 + b)) (hap : S.ap (a * 40 + b) = (c : Int)) (hs : S.has a) (ht : S.tn = (t : Int)) : (S.addT a b c t).lstT (a * 40 + b + 1) := by
  refine ⟨St.lstT0_add ha hb hc hab hac hA hcy h.1 hap hs ht, fun j hj => ?_⟩
  show 0 ≤ uZ (uZ (uZ S.co (3 * t) a) (3 * t + 1) b) (3 * t + 2) c j ∧ uZ (uZ (uZ S.co (3 * t) a) (3 * t + 1) b) (3 * t + 2) c j < 40
  have := h.2 j hj
  by_cases c1 : j = 3 * t + 2
  · rw [c1, uZ_at]; omega
  · rw [uZ_ne c1]
    by_cases c2 : j = 3 * t + 1
    · rw [c2, uZ_at]; omega
    · rw [uZ_ne c2]
      by_cases c3 : j = 3 * t
      · rw [c3, uZ_at]; omega
      · rw [uZ_ne c3]; exact this
theorem c_listEdge {pre post : pW} {m : Nat} (hm : pre.length = m) (S : St) {a b : Nat} (ha : a < 40) (hb : b < 40) {t : Nat} (ht : S.ec = (t : Int)) (h7 : t < 113) : pRun 27 [.ref m, .int (iI (a : Int)), .int (iI (b : Int))] (pre ++ (mB m S ++ post)) none (pre ++ (mB m (S.addE a b t) ++ post)) := by
  refine qx_run ?_
  refine pc_run (lv := [(0, .ref m), (1, .int (iI (a : Int))), (2, .int (iI (b : Int)))]) rfl ?_
  rw [mB_eta m S]
  refine pe_go (pc := 0) rfl (s_aload_n rfl) ?_
  refine pe_go (pc := 1) rfl (s_getf (v := .ref (m + 12)) (gA0 hm mM_0) rfl) ?_
  refine pe_go (pc := 4) rfl (s_iload_n rfl) ?_
  refine pe_go (pc := 5) rfl s_dup2 ?_
  refine pe_go (pc := 6) rfl (s_lald (n := 40) (f := S.ne) (v := S.ne a) (gA hm mM_ne) (k := a) (by omega) (by omega) (by decide) rfl) ?_
  refine pe_go (pc := 7) rfl s_lconst1 ?_
  refine pe_go (pc := 8) rfl (s_iload_n rfl) ?_
  refine pe_go (pc := 9) rfl (s_bit1 (k := b) (by omega) (by omega)) ?_
  refine pe_go (pc := 10) rfl s_bset ?_
  refine pe_go (pc := 11) rfl (s_last (n := 40) (f := S.ne) (w' := pre ++ (mB m (sM S.xs S.ys S.hs S.fx S.hx S.hy S.th S.hn S.g S.ap S.ow S.co S.en (vp_updL S.ne a (bSet (S.ne a) b)) S.rd S.tn S.ec S.li S.wa S.qu S.qn) ++ post)) (gA hm mM_ne) (k := a) (by omega) (by omega) (by decide) (gS hm mM_s_ne)) ?_
  refine pe_go (pc := 12) rfl (s_aload_n rfl) ?_
  refine pe_go (pc := 13) rfl (s_getf (v := .ref (m + 12)) (gA0 hm mM_0) rfl) ?_
  refine pe_go (pc := 16) rfl (s_iload_n rfl) ?_
  refine pe_go (pc := 17) rfl s_dup2 ?_
  refine pe_go (pc := 18) rfl (s_lald (n := 40) (f := vp_updL S.ne a (bSet (S.ne a) b)) (v := (vp_updL S.ne a (bSet (S.ne a) b)) b) (gA hm mM_ne) (k := b) (by omega) (by omega) (by decide) rfl) ?_
  refine pe_go (pc := 19) rfl s_lconst1 ?_
  refine pe_go (pc := 20) rfl (s_iload_n rfl) ?_
  refine pe_go (pc := 21) rfl (s_bit1 (k := a) (by omega) (by omega)) ?_
  refine pe_go (pc := 22) rfl s_bset ?_
  refine pe_go (pc := 23) rfl (s_last (n := 40) (f := vp_updL S.ne a (bSet (S.ne a) b)) (w' := pre ++ (mB m (sM S.xs S.ys S.hs S.fx S.hx S.hy S.th S.hn S.g S.ap S.ow S.co S.en (vp_updL (vp_updL S.ne a (bSet (S.ne a) b)) b (bSet ((vp_updL S.ne a (bSet (S.ne a) b)) b) a)) S.rd S.tn S.ec S.li S.wa S.qu S.qn) ++ post)) (gA hm mM_ne) (k := b) (by omega) (by omega) (by decide) (gS hm mM_s_ne)) ?_
  refine pe_go (pc := 24) rfl (s_aload_n rfl) ?_
  refine pe_go (pc := 25) rfl (s_getf (v := .int (iI S.ec)) (gA0 hm mM_0) rfl) ?_
  refine pe_go (pc := 28) rfl (s_bipush (z := 113) rfl) ?_
  refine pe_go rfl (s_icmp_ge_f ⟨by omega, by omega⟩ ⟨by decide, by decide⟩ (by omega)) ?_
  refine pe_go (pc := 33) rfl (s_aload_n rfl) ?_
  refine pe_go (pc := 34) rfl (s_getf (v := .ref (m + 11)) (gA0 hm mM_0) rfl) ?_
  refine pe_go (pc := 37) rfl (s_iconst (z := 2) rfl) ?_
  refine pe_go (pc := 38) rfl (s_aload_n rfl) ?_
  refine pe_go (pc := 39) rfl (s_getf (v := .int (iI S.ec)) (gA0 hm mM_0) rfl) ?_
  refine pe_go (pc := 42) rfl s_imul ?_
  refine pe_go (pc := 43) rfl (s_iload_n rfl) ?_
  refine pe_go (pc := 44) rfl (s_iast (n := 226) (f := S.en) (w' := pre ++ (mB m (sM S.xs S.ys S.hs S.fx S.hx S.hy S.th S.hn S.g S.ap S.ow S.co (uZ S.en (2 * t) (a : Int)) (vp_updL (vp_updL S.ne a (bSet (S.ne a) b)) b (bSet ((vp_updL S.ne a (bSet (S.ne a) b)) b) a)) S.rd S.tn S.ec S.li S.wa S.qu S.qn) ++ post)) (gA hm mM_en) (k := 2 * t) (by omega) (by omega) (by decide) (gS hm mM_s_en)) ?_
  refine pe_go (pc := 45) rfl (s_aload_n rfl) ?_
  refine pe_go (pc := 46) rfl (s_getf (v := .ref (m + 11)) (gA0 hm mM_0) rfl) ?_
  refine pe_go (pc := 49) rfl (s_iconst (z := 2) rfl) ?_
  refine pe_go (pc := 50) rfl (s_aload_n rfl) ?_
  refine pe_go (pc := 51) rfl (s_getf (v := .int (iI S.ec)) (gA0 hm mM_0) rfl) ?_
  refine pe_go (pc := 54) rfl s_imul ?_
  refine pe_go (pc := 55) rfl (s_iconst (z := 1) rfl) ?_
  refine pe_go (pc := 56) rfl s_iadd ?_
  refine pe_go (pc := 57) rfl (s_iload_n rfl) ?_
  refine pe_go (pc := 58) rfl (s_iast (n := 226) (f := uZ S.en (2 * t) (a : Int)) (w' := pre ++ (mB m (sM S.xs S.ys S.hs S.fx S.hx S.hy S.th S.hn S.g S.ap S.ow S.co (uZ (uZ S.en (2 * t) (a : Int)) (2 * t + 1) (b : Int)) (vp_updL (vp_updL S.ne a (bSet (S.ne a) b)) b (bSet ((vp_updL S.ne a (bSet (S.ne a) b)) b) a)) S.rd S.tn S.ec S.li S.wa S.qu S.qn) ++ post)) (gA hm mM_en) (k := 2 * t + 1) (by omega) (by omega) (by decide) (gS hm mM_s_en)) ?_
  refine pe_go (pc := 59) rfl (s_aload_n rfl) ?_
  refine pe_go (pc := 60) rfl (s_dup rfl) ?_
  refine pe_go (pc := 61) rfl (s_getf (v := .int (iI S.ec)) (gA0 hm mM_0) rfl) ?_
  refine pe_go (pc := 64) rfl (s_iconst (z := 1) rfl) ?_
  refine pe_go (pc := 65) rfl s_iadd ?_
  refine pe_go (pc := 66) rfl (s_putf (w' := pre ++ (mB m (sM S.xs S.ys S.hs S.fx S.hx S.hy S.th S.hn S.g S.ap S.ow S.co (uZ (uZ S.en (2 * t) (a : Int)) (2 * t + 1) (b : Int)) (vp_updL (vp_updL S.ne a (bSet (S.ne a) b)) b (bSet ((vp_updL S.ne a (bSet (S.ne a) b)) b) a)) S.rd S.tn (S.ec + 1) S.li S.wa S.qu S.qn) ++ post)) (gA0 hm mM_0) (Nat.le_of_ble_eq_true rfl) rfl (gS0 hm mM_s_ec)) ?_
  exact pe_ret rfl s_retv ⟨rfl, rfl⟩
theorem c_listTri {pre post : pW} {m : Nat} (hm : pre.length = m) (S : St) {a b c : Nat} (ha : a < 40) (hb : b < 40) (hc : c < 40) {t : Nat} (ht : S.tn = (t : Int)) (h7 : t < 74) : pRun 28 [.ref m, .int (iI (a : Int)), .int (iI (b : Int)), .int (iI (c : Int))] (pre ++ (mB m S ++ post)) none (pre ++ (mB m (S.addT a b c t) ++ post)) := by
  refine qx_run ?_
  refine pc_run (lv := [(0, .ref m), (1, .int (iI (a : Int))), (2, .int (iI (b : Int))), (3, .int (iI (c : Int)))]) rfl ?_
  rw [mB_eta m S]
  refine pe_go (pc := 0) rfl (s_aload_n rfl) ?_
  refine pe_go (pc := 1) rfl (s_getf (v := .int (iI S.tn)) (gA0 hm mM_0) rfl) ?_
  refine pe_go (pc := 4) rfl (s_bipush (z := 74) rfl) ?_
  refine pe_go rfl (s_icmp_ge_f ⟨by omega, by omega⟩ ⟨by decide, by decide⟩ (by omega)) ?_
  refine pe_go (pc := 9) rfl (s_aload_n rfl) ?_
  refine pe_go (pc := 10) rfl (s_getf (v := .ref (m + 10)) (gA0 hm mM_0) rfl) ?_
  refine pe_go (pc := 13) rfl (s_iconst (z := 3) rfl) ?_
  refine pe_go (pc := 14) rfl (s_aload_n rfl) ?_
  refine pe_go (pc := 15) rfl (s_getf (v := .int (iI S.tn)) (gA0 hm mM_0) rfl) ?_
  refine pe_go (pc := 18) rfl s_imul ?_
  refine pe_go (pc := 19) rfl (s_iload_n rfl) ?_
  refine pe_go (pc := 20) rfl (s_iast (n := 222) (f := S.co) (w' := pre ++ (mB m (sM S.xs S.ys S.hs S.fx S.hx S.hy S.th S.hn S.g S.ap S.ow (uZ S.co (3 * t) (a : Int)) S.en S.ne S.rd S.tn S.ec S.li S.wa S.qu S.qn) ++ post)) (gA hm mM_co) (k := 3 * t) (by omega) (by omega) (by decide) (gS hm mM_s_co)) ?_
  refine pe_go (pc := 21) rfl (s_aload_n rfl) ?_
  refine pe_go (pc := 22) rfl (s_getf (v := .ref (m + 10)) (gA0 hm mM_0) rfl) ?_
  refine pe_go (pc := 25) rfl (s_iconst (z := 3) rfl) ?_
  refine pe_go (pc := 26) rfl (s_aload_n rfl) ?_
  refine pe_go (pc := 27) rfl (s_getf (v := .int (iI S.tn)) (gA0 hm mM_0) rfl) ?_
  refine pe_go (pc := 30) rfl s_imul ?_
  refine pe_go (pc := 31) rfl (s_iconst (z := 1) rfl) ?_
  refine pe_go (pc := 32) rfl s_iadd ?_
  refine pe_go (pc := 33) rfl (s_iload_n rfl) ?_
  refine pe_go (pc := 34) rfl (s_iast (n := 222) (f := uZ S.co (3 * t) (a : Int)) (w' := pre ++ (mB m (sM S.xs S.ys S.hs S.fx S.hx S.hy S.th S.hn S.g S.ap S.ow (uZ (uZ S.co (3 * t) (a : Int)) (3 * t + 1) (b : Int)) S.en S.ne S.rd S.tn S.ec S.li S.wa S.qu S.qn) ++ post)) (gA hm mM_co) (k := 3 * t + 1) (by omega) (by omega) (by decide) (gS hm mM_s_co)) ?_
  refine pe_go (pc := 35) rfl (s_aload_n rfl) ?_
  refine pe_go (pc := 36) rfl (s_getf (v := .ref (m + 10)) (gA0 hm mM_0) rfl) ?_
  refine pe_go (pc := 39) rfl (s_iconst (z := 3) rfl) ?_
  refine pe_go (pc := 40) rfl (s_aload_n rfl) ?_
  refine pe_go (pc := 41) rfl (s_getf (v := .int (iI S.tn)) (gA0 hm mM_0) rfl) ?_
  refine pe_go (pc := 44) rfl s_imul ?_
  refine pe_go (pc := 45) rfl (s_iconst (z := 2) rfl) ?_
  refine pe_go (pc := 46) rfl s_iadd ?_
  refine pe_go (pc := 47) rfl (s_iload_n rfl) ?_
  refine pe_go (pc := 48) rfl (s_iast (n := 222) (f := uZ (uZ S.co (3 * t) (a : Int)) (3 * t + 1) (b : Int)) (w' := pre ++ (mB m (sM S.xs S.ys S.hs S.fx S.hx S.hy S.th S.hn S.g S.ap S.ow (uZ (uZ (uZ S.co (3 * t) (a : Int)) (3 * t + 1) (b : Int)) (3 * t + 2) (c : Int)) S.en S.ne S.rd S.tn S.ec S.li S.wa S.qu S.qn) ++ post)) (gA hm mM_co) (k := 3 * t + 2) (by omega) (by omega) (by decide) (gS hm mM_s_co)) ?_
  refine pe_go (pc := 49) rfl (s_aload_n rfl) ?_
  refine pe_go (pc := 50) rfl (s_getf (v := .ref (m + 9)) (gA0 hm mM_0) rfl) ?_
  refine pe_go (pc := 53) rfl (s_iload_n rfl) ?_
  refine pe_go (pc := 54) rfl (s_bipush (z := 40) rfl) ?_
  refine pe_go (pc := 56) rfl s_imul ?_
  refine pe_go (pc := 57) rfl (s_iload_n rfl) ?_
  refine pe_go (pc := 58) rfl s_iadd ?_
  refine pe_go (pc := 59) rfl (s_aload_n rfl) ?_
  refine pe_go (pc := 60) rfl (s_getf (v := .int (iI S.tn)) (gA0 hm mM_0) rfl) ?_
  refine pe_go (pc := 63) rfl (s_iast (n := 1600) (f := S.ow) (w' := pre ++ (mB m (sM S.xs S.ys S.hs S.fx S.hx S.hy S.th S.hn S.g S.ap (uZ S.ow ((a * 40) + b) S.tn) (uZ (uZ (uZ S.co (3 * t) (a : Int)) (3 * t + 1) (b : Int)) (3 * t + 2) (c : Int)) S.en S.ne S.rd S.tn S.ec S.li S.wa S.qu S.qn) ++ post)) (gA hm mM_ow) (k := (a * 40) + b) (by omega) (by omega) (by decide) (gS hm mM_s_ow)) ?_
  refine pe_go (pc := 64) rfl (s_aload_n rfl) ?_
  refine pe_go (pc := 65) rfl (s_getf (v := .ref (m + 9)) (gA0 hm mM_0) rfl) ?_
  refine pe_go (pc := 68) rfl (s_iload_n rfl) ?_
  refine pe_go (pc := 69) rfl (s_bipush (z := 40) rfl) ?_
  refine pe_go (pc := 71) rfl s_imul ?_
  refine pe_go (pc := 72) rfl (s_iload_n rfl) ?_
  refine pe_go (pc := 73) rfl s_iadd ?_
  refine pe_go (pc := 74) rfl (s_aload_n rfl) ?_
  refine pe_go (pc := 75) rfl (s_getf (v := .int (iI S.tn)) (gA0 hm mM_0) rfl) ?_
  refine pe_go (pc := 78) rfl (s_iast (n := 1600) (f := uZ S.ow ((a * 40) + b) S.tn) (w' := pre ++ (mB m (sM S.xs S.ys S.hs S.fx S.hx S.hy S.th S.hn S.g S.ap (uZ (uZ S.ow ((a * 40) + b) S.tn) ((b * 40) + c) S.tn) (uZ (uZ (uZ S.co (3 * t) (a : Int)) (3 * t + 1) (b : Int)) (3 * t + 2) (c : Int)) S.en S.ne S.rd S.tn S.ec S.li S.wa S.qu S.qn) ++ post)) (gA hm mM_ow) (k := (b * 40) + c) (by omega) (by omega) (by decide) (gS hm mM_s_ow)) ?_
  refine pe_go (pc := 79) rfl (s_aload_n rfl) ?_
  refine pe_go (pc := 80) rfl (s_getf (v := .ref (m + 9)) (gA0 hm mM_0) rfl) ?_
  refine pe_go (pc := 83) rfl (s_iload_n rfl) ?_
  refine pe_go (pc := 84) rfl (s_bipush (z := 40) rfl) ?_
  refine pe_go (pc := 86) rfl s_imul ?_
  refine pe_go (pc := 87) rfl (s_iload_n rfl) ?_
  refine pe_go (pc := 88) rfl s_iadd ?_
  refine pe_go (pc := 89) rfl (s_aload_n rfl) ?_
  refine pe_go (pc := 90) rfl (s_getf (v := .int (iI S.tn)) (gA0 hm mM_0) rfl) ?_
  refine pe_go (pc := 93) rfl (s_iast (n := 1600) (f := uZ (uZ S.ow ((a * 40) + b) S.tn) ((b * 40) + c) S.tn) (w' := pre ++ (mB m (sM S.xs S.ys S.hs S.fx S.hx S.hy S.th S.hn S.g S.ap (uZ (uZ (uZ S.ow ((a * 40) + b) S.tn) ((b * 40) + c) S.tn) ((c * 40) + a) S.tn) (uZ (uZ (uZ S.co (3 * t) (a : Int)) (3 * t + 1) (b : Int)) (3 * t + 2) (c : Int)) S.en S.ne S.rd S.tn S.ec S.li S.wa S.qu S.qn) ++ post)) (gA hm mM_ow) (k := (c * 40) + a) (by omega) (by omega) (by decide) (gS hm mM_s_ow)) ?_
  refine pe_go (pc := 94) rfl (s_aload_n rfl) ?_
  refine pe_go (pc := 95) rfl (s_dup rfl) ?_
  refine pe_go (pc := 96) rfl (s_getf (v := .int (iI S.tn)) (gA0 hm mM_0) rfl) ?_
  refine pe_go (pc := 99) rfl (s_iconst (z := 1) rfl) ?_
  refine pe_go (pc := 100) rfl s_iadd ?_
  refine pe_go (pc := 101) rfl (s_putf (w' := pre ++ (mB m (sM S.xs S.ys S.hs S.fx S.hx S.hy S.th S.hn S.g S.ap (uZ (uZ (uZ S.ow ((a * 40) + b) S.tn) ((b * 40) + c) S.tn) ((c * 40) + a) S.tn) (uZ (uZ (uZ S.co (3 * t) (a : Int)) (3 * t + 1) (b : Int)) (3 * t + 2) (c : Int)) S.en S.ne S.rd (S.tn + 1) S.ec S.li S.wa S.qu S.qn) ++ post)) (gA0 hm mM_0) (Nat.le_of_ble_eq_true rfl) rfl (gS0 hm mM_s_tn)) ?_
  exact pe_ret rfl s_retv ⟨rfl, rfl⟩
