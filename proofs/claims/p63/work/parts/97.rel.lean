/-! A STATE AND A SHEET THAT SAY THE SAME. By hand. -/
theorem pm_nonneg {a b : Int} (h : 0 ≤ a * b) (h2 : a + b < 0) : a ≤ 0 ∧ b ≤ 0 := by
  constructor
  · rcases Int.lt_or_le 0 a with c | c
    · exfalso
      have : b < 0 := by omega
      have := Int.mul_neg_of_pos_of_neg c this
      omega
    · exact c
  · rcases Int.lt_or_le 0 b with c | c
    · exfalso
      have : a < 0 := by omega
      have := Int.mul_neg_of_neg_of_pos this c
      omega
    · exact c
theorem prod_le {a b : Int} : a * b ≤ 0 ↔ (a ≤ 0 ∧ 0 ≤ b) ∨ (0 ≤ a ∧ b ≤ 0) := by
  constructor
  · intro h
    rcases Int.lt_trichotomy a 0 with c | c | c
    · rcases Int.lt_or_le b 0 with d | d
      · have := Int.mul_pos_of_neg_of_neg c d; omega
      · exact Or.inl ⟨by omega, d⟩
    · rcases Int.lt_or_le b 0 with d | d
      · exact Or.inr ⟨by omega, by omega⟩
      · exact Or.inl ⟨by omega, d⟩
    · rcases Int.lt_or_le 0 b with d | d
      · have := Int.mul_pos c d; omega
      · exact Or.inr ⟨by omega, d⟩
  · rintro (⟨h1, h2⟩ | ⟨h1, h2⟩)
    · exact Int.mul_nonpos_of_nonpos_of_nonneg h1 h2
    · exact Int.mul_nonpos_of_nonneg_of_nonpos h1 h2
/-- between the ends, as the law and as the mathematics ask it -/
theorem btw_iff {x1 y1 x2 y2 x y : Int} : btw2 x1 y1 x2 y2 x y ↔ sd2 x1 y1 x2 y2 x y = 0 ∧ (x1 - x) * (x2 - x) + (y1 - y) * (y2 - y) < 0 := by
  have hx := zmm x1 x2
  have hy := zmm y1 y2
  have ex : (zmin x1 x2 ≤ x ∧ x ≤ zmax x1 x2) ↔ (x1 - x) * (x2 - x) ≤ 0 := by
    rw [prod_le]
    unfold zmin zmax
    constructor
    · intro h
      split at h <;> split at h <;> omega
    · intro h
      split <;> split <;> omega
  have ey : (zmin y1 y2 ≤ y ∧ y ≤ zmax y1 y2) ↔ (y1 - y) * (y2 - y) ≤ 0 := by
    rw [prod_le]
    unfold zmin zmax
    constructor
    · intro h
      split at h <;> split at h <;> omega
    · intro h
      split <;> split <;> omega
  constructor
  · rintro ⟨h1, ⟨h2, h3, h4, h5⟩, h6, h7⟩
    refine ⟨h1, ?_⟩
    have px := ex.mp ⟨h2, h3⟩
    have py := ey.mp ⟨h4, h5⟩
    apply Classical.byContradiction
    intro hn
    have e1 : (x1 - x) * (x2 - x) = 0 := by omega
    have e2 : (y1 - y) * (y2 - y) = 0 := by omega
    unfold sd2 at h1
    rcases Int.mul_eq_zero.mp e1 with a | a <;> rcases Int.mul_eq_zero.mp e2 with b | b
    · omega
    · have ea : x1 = x := by omega
      have eb : y2 = y := by omega
      rw [ea, eb, Int.sub_self, Int.mul_zero] at h1
      rcases Int.mul_eq_zero.mp (show (x2 - x) * (y - y1) = 0 by omega) with c | c <;> omega
    · have ea : x2 = x := by omega
      have eb : y1 = y := by omega
      rw [ea, eb, Int.sub_self, Int.mul_zero] at h1
      rcases Int.mul_eq_zero.mp (show (y2 - y) * (x - x1) = 0 by omega) with c | c <;> omega
    · omega
  · rintro ⟨h1, h2⟩
    have hcol : (x1 - x) * (y2 - y) = (x2 - x) * (y1 - y) := by unfold sd2 at h1; grind
    have hpp : 0 ≤ ((x1 - x) * (x2 - x)) * ((y1 - y) * (y2 - y)) := by
      have e : ((x1 - x) * (x2 - x)) * ((y1 - y) * (y2 - y)) = ((x1 - x) * (y2 - y)) * ((x2 - x) * (y1 - y)) := by grind
      rw [e, ← hcol]
      rcases Int.le_total 0 ((x1 - x) * (y2 - y)) with c | c
      · exact Int.mul_nonneg c c
      · exact Int.mul_nonneg_of_nonpos_of_nonpos c c
    obtain ⟨px, py⟩ := pm_nonneg hpp h2
    obtain ⟨a1, a2⟩ := ex.mpr px
    obtain ⟨b1, b2⟩ := ey.mpr py
    refine ⟨h1, ⟨a1, a2, b1, b2⟩, ?_, ?_⟩
    · apply Classical.byContradiction
      intro z
      have e1 : x1 - x = 0 := by omega
      have e2 : y1 - y = 0 := by omega
      rw [e1, e2, Int.zero_mul, Int.zero_mul] at h2
      omega
    · apply Classical.byContradiction
      intro z
      have e1 : x2 - x = 0 := by omega
      have e2 : y2 - y = 0 := by omega
      rw [e1, e2, Int.mul_zero, Int.mul_zero] at h2
      omega
/-- how an edge is fixed: 2 along a side, 1 else -/
noncomputable def St.how (S : St) (p q : Nat) : Int := @ite Int (S.bound p q) (Classical.propDecidable _) (@ite Int (S.onside p q ∨ S.onside q p) (Classical.propDecidable _) 2 1) 0
theorem St.how_0 {S : St} {p q : Nat} : S.how p q = 0 ↔ ¬ S.bound p q := by
  unfold St.how
  constructor
  · intro h hb
    rw [if_pos hb] at h
    split at h <;> omega
  · intro h
    exact if_neg h
theorem St.how_2 {S : St} {p q : Nat} : S.how p q = 2 ↔ S.bound p q ∧ (S.onside p q ∨ S.onside q p) := by
  unfold St.how
  constructor
  · intro h
    by_cases hb : S.bound p q
    · rw [if_pos hb] at h
      by_cases c : S.onside p q ∨ S.onside q p
      · exact ⟨hb, c⟩
      · rw [if_neg c] at h; omega
    · rw [if_neg hb] at h; omega
  · rintro ⟨h1, h2⟩
    exact (if_pos h1).trans (if_pos h2)
theorem St.how_1 {S : St} {p q : Nat} : S.how p q = 1 ↔ S.bound p q ∧ ¬ (S.onside p q ∨ S.onside q p) := by
  unfold St.how
  constructor
  · intro h
    by_cases hb : S.bound p q
    · rw [if_pos hb] at h
      by_cases c : S.onside p q ∨ S.onside q p
      · rw [if_pos c] at h; omega
      · exact ⟨hb, c⟩
    · rw [if_neg hb] at h; omega
  · rintro ⟨h1, h2⟩
    exact (if_pos h1).trans (if_neg h2)
theorem St.how_b (S : St) (p q : Nat) : 0 ≤ S.how p q ∧ S.how p q ≤ 2 := by
  unfold St.how
  by_cases hb : S.bound p q
  · rw [if_pos hb]
    split <;> omega
  · rw [if_neg hb]; omega
/-- the same told -/
def Rel (S : St) (X : Sh) : Prop := (∀ k : Nat, k < 40 → ((X.1 k).isSome = true ↔ S.has k)) ∧ (∀ k : Nat, k < 40 → S.has k → X.cx k = S.xs k ∧ X.cy k = S.ys k ∧ X.cz k = S.hs k) ∧ (∀ p q : Nat, p < 40 → q < 40 → X.2.1 p q = S.how p q) ∧ (X.2.2.1 : Int) = S.hn ∧ X.2.2.2 = S.g
theorem Rel.pt {S : St} {X : Sh} (h : Rel S X) {k : Nat} (hk : k < 40) (sk : S.has k) : X.1 k = some (S.xs k, S.ys k, S.hs k) := by
  have e := Sh.of_some ((h.1 k hk).mpr sk)
  obtain ⟨a, b, c⟩ := h.2.1 k hk sk
  rw [a, b, c] at e
  exact e
theorem Rel.no {S : St} {X : Sh} (h : Rel S X) {k : Nat} (hk : k < 40) (sk : ¬ S.has k) : X.1 k = none := by
  rcases e : X.1 k with _ | t
  · rfl
  · exact absurd ((h.1 k hk).mp (by rw [e]; rfl)) sk
/-- numbers within their bounds, from the state's -/
theorem Rel.In {S : St} {X : Sh} (h : Rel S X) (hS : S.Ok) : X.In := by
  refine ⟨fun k x y z hk hX => ?_, fun i j hi hj => ?_, fun i j hi hj hn => ?_, ?_⟩
  · have sk : S.has k := (h.1 k hk).mp (by rw [hX]; rfl)
    have e := h.pt hk sk
    rw [hX] at e
    cases e
    have b := hS.B k hk
    exact ⟨by unfold inSq; omega, hS.2.2.2.2.2.2.2.2 k hk⟩
  · rw [h.2.2.1 i j hi hj]; exact S.how_b i j
  · rw [h.2.2.1 i j hi hj] at hn
    have hb : S.bound i j := Classical.byContradiction (fun z => hn (St.how_0.mpr z))
    obtain ⟨-, s1, s2, -⟩ := hS.M.2.1.1 i j hi hj hb
    exact ⟨(h.1 i hi).mpr s1, (h.1 j hj).mpr s2⟩
  · rw [h.2.2.2.2]; exact hS.2.2.2.2.2.1
/-- what a state says, one that is told alike says too -/
theorem Rel.alike {S T : St} {X : Sh} (h : Rel S X) (k : S.alike T) (hS : S.Ok) : Rel T X := by
  obtain ⟨k1, k2, k3, k4⟩ := k
  have hh : ∀ p : Nat, T.has p ↔ S.has p := fun p => by unfold St.has; rw [k2]
  have hb : ∀ p q : Nat, p < 40 → (T.bound p q ↔ S.bound p q) := fun p q hp => by unfold St.bound; rw [(k1 p hp).2.2.2]
  refine ⟨fun p hp => (h.1 p hp).trans (hh p).symm, fun p hp sp => ?_, fun p q hp hq => ?_, by rw [k3]; exact h.2.2.2.1, by rw [k4]; exact h.2.2.2.2⟩
  · obtain ⟨a, b, c⟩ := h.2.1 p hp ((hh p).mp sp)
    rw [(k1 p hp).1, (k1 p hp).2.1, (k1 p hp).2.2.1]
    exact ⟨a, b, c⟩
  · rw [h.2.2.1 p q hp hq]
    have ho : ∀ a b : Nat, a < 40 → b < 40 → (T.onside a b ↔ S.onside a b) := fun a b ha hb9 => by
      unfold St.onside
      rw [(k1 a ha).1, (k1 a ha).2.1, (k1 b hb9).1, (k1 b hb9).2.1]
    by_cases c : S.bound p q
    · by_cases d : S.onside p q ∨ S.onside q p
      · rw [St.how_2.mpr ⟨c, d⟩]
        exact (St.how_2.mpr ⟨(hb p q hp).mpr c, d.imp (ho p q hp hq).mpr (ho q p hq hp).mpr⟩).symm
      · rw [St.how_1.mpr ⟨c, d⟩]
        exact (St.how_1.mpr ⟨(hb p q hp).mpr c, fun z => d (z.imp (ho p q hp hq).mp (ho q p hq hp).mp)⟩).symm
    · rw [St.how_0.mpr c]
      exact (St.how_0.mpr (fun z => c ((hb p q hp).mp z))).symm
theorem Rel.tld {S T : St} {X : Sh} (h : Rel S X) (k : S.tld T) (hS : S.Ok) : Rel T X := by
  obtain ⟨h1, h2, h3, h4, h5, h6, h7, h8, h9⟩ := k
  exact h.alike ⟨fun p _ => by rw [h1, h2, h3, h4]; exact ⟨rfl, rfl, rfl, rfl⟩, h7, h8, h9⟩ hS
/-! the folds of a point laid -/
def Sh.act (X : Sh) (x y : Int) (p q : Nat) : Prop := X.2.1 p q ≠ 0 ∧ btw2 (X.cx p) (X.cy p) (X.cx q) (X.cy q) x y
theorem Sh.lay1_no {X : Sh} {k : Nat} {x y : Int} {p q : Nat} (h : ¬ X.act x y p q) : X.lay1 k x y p q = X := if_neg h
theorem Sh.layJ_no {k : Nat} {x y : Int} {p : Nat} {X : Sh} : ∀ (n q : Nat), (∀ b : Nat, q ≤ b → b < q + n → ¬ X.act x y p b) → Sh.layJ k x y p n q X = X := by
  intro n
  induction n with
  | zero => intro q _; rfl
  | succ n ih =>
    intro q h
    show Sh.layJ k x y p n (q + 1) (X.lay1 k x y p q) = X
    rw [Sh.lay1_no (h q (Nat.le_refl _) (by omega))]
    exact ih (q + 1) (fun b h1 h2 => h b (by omega) (by omega))
theorem Sh.layJ_one {k : Nat} {x y : Int} {p j : Nat} {X : Sh} : ∀ (n q : Nat), q ≤ j → j < q + n → (∀ b : Nat, q ≤ b → b < q + n → b ≠ j → ¬ X.act x y p b) → (∀ b : Nat, q ≤ b → b < q + n → ¬ (X.lay1 k x y p j).act x y p b) → Sh.layJ k x y p n q X = X.lay1 k x y p j := by
  intro n
  induction n with
  | zero => intro q h1 h2; omega
  | succ n ih =>
    intro q h1 h2 h3 h4
    show Sh.layJ k x y p n (q + 1) (X.lay1 k x y p q) = _
    by_cases c : q = j
    · rw [c]
      exact Sh.layJ_no n (j + 1) (fun b a1 a2 => h4 b (by omega) (by omega))
    · rw [Sh.lay1_no (h3 q (Nat.le_refl _) (by omega) c)]
      exact ih (q + 1) (by omega) (by omega) (fun b a1 a2 => h3 b (by omega) (by omega)) (fun b a1 a2 => h4 b (by omega) (by omega))
theorem Sh.layI_no {k : Nat} {x y : Int} {X : Sh} : ∀ (n p : Nat), (∀ a b : Nat, p ≤ a → a < p + n → b < a → ¬ X.act x y a b) → Sh.layI k x y n p X = X := by
  intro n
  induction n with
  | zero => intro p _; rfl
  | succ n ih =>
    intro p h
    show Sh.layI k x y n (p + 1) (Sh.layJ k x y p p 0 X) = X
    rw [Sh.layJ_no p 0 (fun b _ a2 => h p b (Nat.le_refl _) (by omega) (by omega))]
    exact ih (p + 1) (fun a b h1 h2 h3 => h a b (by omega) (by omega) h3)
theorem Sh.layI_one {k : Nat} {x y : Int} {i j : Nat} {X : Sh} (hji : j < i) : ∀ (n p : Nat), p ≤ i → i < p + n → (∀ a b : Nat, p ≤ a → a < p + n → b < a → ¬ (a = i ∧ b = j) → ¬ X.act x y a b) → (∀ a b : Nat, p ≤ a → a < p + n → b < a → ¬ (X.lay1 k x y i j).act x y a b) → Sh.layI k x y n p X = X.lay1 k x y i j := by
  intro n
  induction n with
  | zero => intro p h1 h2; omega
  | succ n ih =>
    intro p h1 h2 h3 h4
    show Sh.layI k x y n (p + 1) (Sh.layJ k x y p p 0 X) = _
    by_cases c : p = i
    · subst c
      rw [Sh.layJ_one (j := j) p 0 (Nat.zero_le _) (by omega) (fun b _ a2 a3 => h3 p b (Nat.le_refl _) (by omega) (by omega) (fun z => a3 z.2)) (fun b _ a2 => h4 p b (Nat.le_refl _) (by omega) (by omega))]
      exact Sh.layI_no n (p + 1) (fun a b a1 a2 a3 => h4 a b (by omega) (by omega) a3)
    · rw [Sh.layJ_no p 0 (fun b _ a2 => h3 p b (Nat.le_refl _) (by omega) (by omega) (fun z => c z.1))]
      exact ih (p + 1) (by omega) (by omega) (fun a b a1 a2 a3 => h3 a b (by omega) (by omega) a3) (fun a b a1 a2 a3 => h4 a b (by omega) (by omega) a3)
