/-! THE STAR OF A POINT: the triangles about it, one behind another; no point lies in another one's triangle. By hand. -/
theorem php : ∀ (n : Nat) (f : Nat → Nat), (∀ i : Nat, i ≤ n → f i < n) → ∃ i j : Nat, i < j ∧ j ≤ n ∧ f i = f j := by
  intro n
  induction n with
  | zero => intro f hf; have := hf 0 (Nat.le_refl _); omega
  | succ n ih =>
    intro f hf
    by_cases c0 : ∃ i : Nat, i ≤ n ∧ f i = f (n + 1)
    · obtain ⟨i, h1, h2⟩ := c0
      exact ⟨i, n + 1, by omega, Nat.le_refl _, h2⟩
    · have hne : ∀ i : Nat, i ≤ n → f i ≠ f (n + 1) := fun i h1 h2 => c0 ⟨i, h1, h2⟩
      obtain ⟨i, j, h1, h2, h3⟩ := ih (fun i => if f (n + 1) < f i then f i - 1 else f i) (fun i hi => by
        have a1 := hf i (by omega)
        have a2 := hf (n + 1) (Nat.le_refl _)
        have a3 := hne i hi
        show (if f (n + 1) < f i then f i - 1 else f i) < n
        split <;> omega)
      have a1 := hne i (by omega)
      have a2 := hne j h2
      refine ⟨i, j, h1, by omega, ?_⟩
      have h4 : (if f (n + 1) < f i then f i - 1 else f i) = (if f (n + 1) < f j then f j - 1 else f j) := h3
      split at h4 <;> split at h4 <;> omega
/-- an edge of one triangle alone lies on the border, against the clock -/
abbrev St.onside (S : St) (a b : Nat) : Prop := (S.ys a = -1000 ∧ S.ys b = -1000 ∧ S.xs a < S.xs b) ∨ (S.xs a = 1000 ∧ S.xs b = 1000 ∧ S.ys a < S.ys b) ∨ (S.ys a = 1000 ∧ S.ys b = 1000 ∧ S.xs b < S.xs a) ∨ (S.xs a = -1000 ∧ S.xs b = -1000 ∧ S.ys b < S.ys a)
abbrev St.onB (S : St) (p : Nat) : Prop := S.xs p = 1000 ∨ S.xs p = -1000 ∨ S.ys p = 1000 ∨ S.ys p = -1000
def St.bord (S : St) : Prop := ∀ a b : Nat, a < 40 → b < 40 → S.ap (a * 40 + b) ≠ -1 → S.ap (b * 40 + a) = -1 → S.onside a b
/-- a point of the border has an edge of the border that goes on from it -/
def St.bnx (S : St) : Prop := ∀ p : Nat, p < 40 → S.has p → S.onB p → ∃ v : Nat, v < 40 ∧ S.ap (p * 40 + v) ≠ -1 ∧ S.ap (v * 40 + p) = -1
def St.alive (S : St) : Prop := ∀ p : Nat, p < 40 → S.has p → ∃ v : Nat, v < 40 ∧ S.ap (p * 40 + v) ≠ -1
/-- a mesh -/
def St.Geo (S : St) : Prop := S.inB ∧ S.dist ∧ S.okA ∧ S.cyc ∧ S.pos ∧ S.cov ∧ S.bord ∧ S.bnx ∧ S.alive
theorem St.turn_id (S : St) (q a b c : Nat) (x y s : Int) : S.Hs q b x y s * S.sd3 q a c = S.Hs q a x y s * S.sd3 q b c + S.Hs q c x y s * S.sd3 q a b := by
  unfold St.Hs St.sd3 St.sd
  grind
theorem St.turn_p {S : St} {q a b c : Nat} {x y s : Int} (ha : 0 < S.Hs q a x y s) (hb : 0 < S.Hs q b x y s) (hc : 0 < S.Hs q c x y s) (h1 : 0 < S.sd3 q a b) (h2 : 0 < S.sd3 q b c) : 0 < S.sd3 q a c := by
  have e := S.turn_id q a b c x y s
  have e1 := Int.mul_pos ha h2
  have e2 := Int.mul_pos hc h1
  rcases Int.lt_trichotomy (S.sd3 q a c) 0 with g | g | g
  · have := Int.mul_neg_of_pos_of_neg hb g; omega
  · rw [g, Int.mul_zero] at e; omega
  · exact g
theorem St.turn_n {S : St} {q a b c : Nat} {x y s : Int} (ha : S.Hs q a x y s < 0) (hb : S.Hs q b x y s < 0) (hc : S.Hs q c x y s < 0) (h1 : 0 < S.sd3 q a b) (h2 : 0 < S.sd3 q b c) : 0 < S.sd3 q a c := by
  have e := S.turn_id q a b c x y s
  have e1 := Int.mul_neg_of_neg_of_pos ha h2
  have e2 := Int.mul_neg_of_neg_of_pos hc h1
  rcases Int.lt_trichotomy (S.sd3 q a c) 0 with g | g | g
  · have := Int.mul_pos_of_neg_of_neg hb g; omega
  · rw [g, Int.mul_zero] at e; omega
  · exact g
/-- one step round -/
theorem St.step {S : St} (hA : S.okA) (hcy : S.cyc) (hp : S.pos) {q v : Nat} (hq : q < 40) (hv : v < 40) (h : S.ap (q * 40 + v) ≠ -1) : ∃ c : Nat, c < 40 ∧ S.ap (q * 40 + v) = (c : Int) ∧ (S.ap (q * 40 + v)).toNat = c ∧ S.ap (v * 40 + c) = (q : Int) ∧ S.ap (c * 40 + q) = (v : Int) ∧ S.has q ∧ S.has v ∧ S.has c ∧ 0 < S.sd3 q v c ∧ q ≠ v ∧ v ≠ c ∧ c ≠ q := by
  obtain ⟨a, b, c, ha, hb, hc, e1, e2, e3, h1, h2, h3, g1, g2, g3, g4, n1, n2, n3⟩ := St.edge hA hcy hp (by omega : q * 40 + v < 1600) h
  have ea : a = q := by omega
  have eb : b = v := by omega
  subst ea
  subst eb
  exact ⟨c, hc, h1, by rw [h1]; rfl, h2, h3, g1, g2, g3, g4, n1, n2, n3⟩
theorem St.it_ok {S : St} (hA : S.okA) (hcy : S.cyc) (hp : S.pos) {q v : Nat} (hq : q < 40) (hv : v < 40) {k : Nat} (h : ∀ i : Nat, i < k → S.ap (q * 40 + S.it q v i) ≠ -1) : ∀ i : Nat, i ≤ k → S.it q v i < 40 ∧ (0 < i → S.ap (S.it q v i * 40 + q) = (S.it q v (i - 1) : Int) ∧ 0 < S.sd3 q (S.it q v (i - 1)) (S.it q v i) ∧ S.has (S.it q v i)) := by
  intro i
  induction i with
  | zero => intro _; exact ⟨hv, fun z => by omega⟩
  | succ i ih =>
    intro hi
    obtain ⟨h1, -⟩ := ih (by omega)
    obtain ⟨c, hc, k1, k2, k3, k4, g1, g2, g3, g4, -⟩ := St.step hA hcy hp hq h1 (h i (by omega))
    have e : S.it q v (i + 1) = c := k2
    rw [e]
    exact ⟨hc, fun _ => ⟨k4, g4, g3⟩⟩
/-- where all lie on one side, the turns add up -/
theorem St.it_turn {S : St} {q v : Nat} {x y s : Int} {k : Nat} (hs : (∀ i : Nat, i ≤ k → 0 < S.Hs q (S.it q v i) x y s) ∨ (∀ i : Nat, i ≤ k → S.Hs q (S.it q v i) x y s < 0)) (ht : ∀ i : Nat, i < k → 0 < S.sd3 q (S.it q v i) (S.it q v (i + 1))) (i : Nat) : ∀ j : Nat, i < j → j ≤ k → 0 < S.sd3 q (S.it q v i) (S.it q v j) := by
  intro j
  induction j with
  | zero => intro h _; omega
  | succ j ih =>
    intro h1 h2
    by_cases e : i = j
    · subst e
      exact ht i (by omega)
    · have h3 := ih (by omega) (by omega)
      rcases hs with hs | hs
      · exact St.turn_p (hs i (by omega)) (hs j (by omega)) (hs (j + 1) h2) h3 (ht j (by omega))
      · exact St.turn_n (hs i (by omega)) (hs j (by omega)) (hs (j + 1) h2) h3 (ht j (by omega))
/-- from the right of the ray to its left there is a step that crosses it -/
theorem it_cross {P : Nat → Bool} : ∀ (k : Nat), P 0 = true → P k = false → ∃ i : Nat, i < k ∧ P i = true ∧ P (i + 1) = false := by
  intro k
  induction k with
  | zero => intro h1 h2; rw [h1] at h2; cases h2
  | succ k ih =>
    intro h1 h2
    cases hk : P k with
    | true => exact ⟨k, by omega, hk, h2⟩
    | false =>
      obtain ⟨i, g1, g2, g3⟩ := ih h1 hk
      exact ⟨i, by omega, g2, g3⟩
/-- about a point that is not on the border: round and round -/
theorem St.star_in {S : St} (hA : S.okA) (hcy : S.cyc) (hp : S.pos) {q v : Nat} (hq : q < 40) (hv : v < 40) (h0 : S.ap (q * 40 + v) ≠ -1) (hin : ∀ u : Nat, u < 40 → S.ap (u * 40 + q) ≠ -1 → S.ap (q * 40 + u) ≠ -1) {x y s : Int} (hg : S.gen x y s) :
    ∃ i : Nat, S.ap (q * 40 + S.it q v i) ≠ -1 ∧ S.it q v i < 40 ∧ 0 < S.Hs q (S.it q v i) x y s ∧ S.Hs q (S.it q v (i + 1)) x y s < 0 := by
  have hall : ∀ i : Nat, S.ap (q * 40 + S.it q v i) ≠ -1 ∧ S.it q v i < 40 := by
    intro i
    induction i with
    | zero => exact ⟨h0, hv⟩
    | succ i ih =>
      obtain ⟨c, hc, k1, k2, k3, k4, -⟩ := St.step hA hcy hp hq ih.2 ih.1
      have e : S.it q v (i + 1) = c := k2
      rw [e]
      exact ⟨hin c hc (by omega), hc⟩
  have hst : ∀ i : Nat, 0 < S.sd3 q (S.it q v i) (S.it q v (i + 1)) ∧ S.Hs q (S.it q v i) x y s ≠ 0 := by
    intro i
    obtain ⟨c, hc, k1, k2, k3, k4, g1, g2, g3, g4, n1, -⟩ := St.step hA hcy hp hq (hall i).2 (hall i).1
    have e : S.it q v (i + 1) = c := k2
    rw [e]
    exact ⟨g4, hg.2.2 q _ hq (hall i).2 g1 g2 n1⟩
  obtain ⟨i, j, h1, h2, h3⟩ := php 40 (S.it q v) (fun i _ => (hall i).2)
  -- beyond i all on one side is impossible
  by_cases c1 : ∃ a : Nat, 0 < S.Hs q (S.it q v a) x y s
  · obtain ⟨a, ha⟩ := c1
    by_cases c2 : ∃ b : Nat, a ≤ b ∧ S.Hs q (S.it q v b) x y s < 0
    · obtain ⟨b, hb1, hb2⟩ := c2
      obtain ⟨d, g1, g2, g3⟩ := it_cross (P := fun d => decide (0 < S.Hs q (S.it q v (a + d)) x y s)) (b - a) (decide_eq_true ha) (decide_eq_false (by rw [show a + (b - a) = b by omega]; omega))
      have g2 := of_decide_eq_true g2
      have g3 := of_decide_eq_false g3
      have g4 := (hst (a + (d + 1))).2
      exact ⟨a + d, (hall _).1, (hall _).2, g2, by rw [show a + d + 1 = a + (d + 1) by omega]; omega⟩
    · exfalso
      obtain ⟨i2, j2, f1, f2, f3⟩ := php 40 (fun d => S.it q v (a + d)) (fun d _ => (hall _).2)
      have h5 : ∀ d : Nat, S.it q v (a + d) = S.it q (S.it q v a) d := by
        intro d
        induction d with
        | zero => rfl
        | succ d ih =>
          show (S.ap (q * 40 + S.it q v (a + d))).toNat = (S.ap (q * 40 + S.it q (S.it q v a) d)).toNat
          rw [ih]
      have h6 := St.it_turn (S := S) (q := q) (v := S.it q v a) (x := x) (y := y) (s := s) (k := j2) (Or.inl (fun d _ => by
        rw [← h5]
        have g1 := (hst (a + d)).2
        rcases Int.lt_or_le (S.Hs q (S.it q v (a + d)) x y s) 0 with z | z
        · exact absurd ⟨a + d, by omega, z⟩ c2
        · omega)) (fun d _ => by rw [← h5, ← h5]; exact (hst (a + d)).1) i2 j2 f1 (Nat.le_refl _)
      rw [← h5, ← h5, f3, St.sd3_self2] at h6
      omega
  · exfalso
    have h6 := St.it_turn (S := S) (q := q) (v := v) (x := x) (y := y) (s := s) (k := j) (Or.inr (fun d _ => by
      have g1 := (hst d).2
      rcases Int.lt_or_le 0 (S.Hs q (S.it q v d) x y s) with z | z
      · exact absurd ⟨d, z⟩ c1
      · omega)) (fun d _ => (hst d).1) i j h1 (Nat.le_refl _)
    rw [h3, St.sd3_self2] at h6
    omega
/-- about a point of the border: from one border edge to the other -/
theorem St.star_bd {S : St} (hA : S.okA) (hcy : S.cyc) (hp : S.pos) (hbd : S.bord) {q v : Nat} (hq : q < 40) (hv : v < 40) (h0 : S.ap (q * 40 + v) ≠ -1) (hno : S.ap (v * 40 + q) = -1) {x y s : Int} (hg : S.gen x y s) (hi : inner x y s) (hinB : S.inB) :
    ∃ i : Nat, S.ap (q * 40 + S.it q v i) ≠ -1 ∧ S.it q v i < 40 ∧ 0 < S.Hs q (S.it q v i) x y s ∧ S.Hs q (S.it q v (i + 1)) x y s < 0 := by
  -- it stops
  have hstop : ∃ k : Nat, k ≤ 40 ∧ S.ap (q * 40 + S.it q v k) = -1 ∧ ∀ i : Nat, i < k → S.ap (q * 40 + S.it q v i) ≠ -1 := by
    by_cases c0 : ∃ k : Nat, k ≤ 40 ∧ S.ap (q * 40 + S.it q v k) = -1
    · obtain ⟨k, hk1, hk2⟩ := c0
      induction k using Nat.strongRecOn with
      | _ k ih =>
        by_cases c1 : ∃ i : Nat, i < k ∧ S.ap (q * 40 + S.it q v i) = -1
        · obtain ⟨i, g1, g2⟩ := c1
          exact ih i g1 (by omega) g2
        · exact ⟨k, hk1, hk2, fun i g1 g2 => c1 ⟨i, g1, g2⟩⟩
    · exfalso
      have hall : ∀ i : Nat, i < 41 → S.ap (q * 40 + S.it q v i) ≠ -1 := fun i g1 g2 => c0 ⟨i, by omega, g2⟩
      have hok := St.it_ok hA hcy hp hq hv hall
      obtain ⟨i, j, h1, h2, h3⟩ := php 40 (S.it q v) (fun i hi => (hok i (by omega)).1)
      -- back to the first
      have back : ∀ (i d : Nat), i + d ≤ 40 → 0 < d → S.it q v i = S.it q v (i + d) → S.it q v 0 = S.it q v d := by
        intro i
        induction i with
        | zero => intro d _ _ h; rw [Nat.zero_add] at h; exact h
        | succ i ih =>
          intro d hd hd0 h
          refine ih d (by omega) hd0 ?_
          have e1 := ((hok (i + 1) (by omega)).2 (by omega)).1
          have e2 := ((hok (i + 1 + d) (by omega)).2 (by omega)).1
          rw [h, e2] at e1
          rw [show i + 1 + d - 1 = i + d by omega, show i + 1 - 1 = i by omega] at e1
          omega
      have h4 := back i (j - i) (by omega) (by omega) (by rw [show i + (j - i) = j by omega]; exact h3)
      have e1 := ((hok (j - i) (by omega)).2 (by omega)).1
      rw [← h4] at e1
      have e2 : S.it q v 0 = v := rfl
      rw [e2] at e1
      omega
  obtain ⟨k, hk1, hk2, hk3⟩ := hstop
  have hok := St.it_ok hA hcy hp hq hv hk3
  have hk0 : k ≠ 0 := fun e => by subst e; exact h0 hk2
  obtain ⟨hc, hc2⟩ := hok k (Nat.le_refl _)
  obtain ⟨hc3, hc4, hc5⟩ := hc2 (by omega)
  have o1 := hbd q v hq hv h0 hno
  have o2 := hbd (S.it q v k) q hc hq (by omega) hk2
  obtain ⟨i1, i2, i3, i4⟩ := hi
  have hs := hg.1
  obtain ⟨b1, b2, b3, b4⟩ := hinB q hq
  obtain ⟨c, hcc, k1, k2, k3, k4, g1, g2, g3, g4, n1, -⟩ := St.step hA hcy hp hq hv h0
  -- the border edge that goes on from q has the place to its left
  have p1 : 0 < S.Hs q v x y s := by
    unfold St.Hs
    rcases o1 with ⟨a1, a2, a3⟩ | ⟨a1, a2, a3⟩ | ⟨a1, a2, a3⟩ | ⟨a1, a2, a3⟩
    · rw [a1, a2, Int.sub_self, Int.zero_mul, Int.sub_zero]; exact Int.mul_pos (by omega) (by omega)
    · rw [a1, a2, Int.sub_self, Int.zero_mul, Int.zero_sub]; have := Int.mul_neg_of_pos_of_neg (show 0 < S.ys v - S.ys q by omega) (show x - s * 1000 < 0 by omega); omega
    · rw [a1, a2, Int.sub_self, Int.zero_mul, Int.sub_zero]; exact Int.mul_pos_of_neg_of_neg (by omega) (by omega)
    · rw [a1, a2, Int.sub_self, Int.zero_mul, Int.zero_sub]; have := Int.mul_neg_of_neg_of_pos (show S.ys v - S.ys q < 0 by omega) (show 0 < x - s * (-1000) by omega); omega
  have p2 : S.Hs q (S.it q v k) x y s < 0 := by
    have e9 := S.Hs_anti (S.it q v k) q x y s
    have : 0 < S.Hs (S.it q v k) q x y s := by
      unfold St.Hs
      rcases o2 with ⟨a1, a2, a3⟩ | ⟨a1, a2, a3⟩ | ⟨a1, a2, a3⟩ | ⟨a1, a2, a3⟩
      · rw [a1, a2, Int.sub_self, Int.zero_mul, Int.sub_zero]; exact Int.mul_pos (by omega) (by omega)
      · rw [a1, a2, Int.sub_self, Int.zero_mul, Int.zero_sub]; have := Int.mul_neg_of_pos_of_neg (show 0 < S.ys q - S.ys (S.it q v k) by omega) (show x - s * 1000 < 0 by omega); omega
      · rw [a1, a2, Int.sub_self, Int.zero_mul, Int.sub_zero]; exact Int.mul_pos_of_neg_of_neg (by omega) (by omega)
      · rw [a1, a2, Int.sub_self, Int.zero_mul, Int.zero_sub]; have := Int.mul_neg_of_neg_of_pos (show S.ys q - S.ys (S.it q v k) < 0 by omega) (show 0 < x - s * (-1000) by omega); omega
    omega
  obtain ⟨i, h1, h2, h3⟩ := it_cross (P := fun d => decide (0 < S.Hs q (S.it q v d) x y s)) k (decide_eq_true p1) (decide_eq_false (by omega))
  have h2 := of_decide_eq_true h2
  have h3 := of_decide_eq_false h3
  refine ⟨i, hk3 i h1, (hok i (by omega)).1, h2, ?_⟩
  obtain ⟨f1, f2⟩ := hok (i + 1) (by omega)
  obtain ⟨f3, f4, f5⟩ := f2 (by omega)
  have := hg.2.2 q (S.it q v (i + 1)) hq f1 g1 f5 (St.pos_ne f4).2.2.symm
  omega
/-- near a point, within the square: a place in a triangle at that point -/
theorem St.star {S : St} (hG : S.Geo) {q : Nat} (hq : q < 40) (hqs : S.has q) {x y s : Int} (hg : S.gen x y s) (hi : inner x y s) (hn : ∀ u v : Nat, u < 40 → v < 40 → 0 < S.sd3 u v q → 0 < S.Hs u v x y s) : ∃ v c : Nat, v < 40 ∧ c < 40 ∧ S.ap (q * 40 + v) = (c : Int) ∧ S.inT x y s q v c := by
  obtain ⟨hinB, hd, hA, hcy, hp, hv, hbd, hbn, hal⟩ := hG
  have fin : (∃ v0 : Nat, ∃ i : Nat, S.ap (q * 40 + S.it q v0 i) ≠ -1 ∧ S.it q v0 i < 40 ∧ 0 < S.Hs q (S.it q v0 i) x y s ∧ S.Hs q (S.it q v0 (i + 1)) x y s < 0) → ∃ v c : Nat, v < 40 ∧ c < 40 ∧ S.ap (q * 40 + v) = (c : Int) ∧ S.inT x y s q v c := by
    rintro ⟨v0, i, h1, h2, h3, h4⟩
    obtain ⟨c, hc, k1, k2, k3, k4, g1, g2, g3, g4, -⟩ := St.step hA hcy hp hq h2 h1
    have e : S.it q v0 (i + 1) = c := k2
    rw [e] at h4
    have := S.Hs_anti c q x y s
    exact ⟨S.it q v0 i, c, h2, hc, k1, h3, hn _ _ h2 hc (by rw [St.sd3_rot]; exact g4), by omega⟩
  apply fin
  by_cases c0 : S.onB q
  · obtain ⟨v, h1, h2, h3⟩ := hbn q hq hqs c0
    exact ⟨v, St.star_bd hA hcy hp hbd hq h1 h2 h3 hg hi hinB⟩
  · obtain ⟨v, h1, h2⟩ := hal q hq hqs
    refine ⟨v, St.star_in hA hcy hp hq h1 h2 (fun u hu hz hz2 => c0 ?_) hg⟩
    have := hbd u q hu hq hz hz2
    unfold St.onside at this
    unfold St.onB
    omega
/-- no point lies in a triangle but at its corners -/
theorem St.alone {S : St} (hG : S.Geo) {a b c q : Nat} (ha : a < 40) (hb : b < 40) (hc : c < 40) (h : S.ap (a * 40 + b) = (c : Int)) (hq : q < 40) (hqs : S.has q) (h1 : 0 ≤ S.sd3 a b q) (h2 : 0 ≤ S.sd3 b c q) (h3 : 0 ≤ S.sd3 c a q) : q = a ∨ q = b ∨ q = c := by
  have hG' := hG
  obtain ⟨hinB, hd, hA, hcy, hp, hv, hbd, hbn, hal⟩ := hG
  obtain ⟨k1, k2⟩ := hcy a b c ha hb hc h
  obtain ⟨g1, g2, g3, g4⟩ := hp a b c ha hb hc h
  by_cases cq : q = a ∨ q = b ∨ q = c
  · exact cq
  · exfalso
    -- a direction into the triangle
    have main : ∀ p r W w1 w2 w3 : Int, 0 < w1 → 0 < w2 → 0 < w3 → S.Ls a b p r = w3 * S.sd3 a b c - W * S.sd3 a b q → S.Ls b c p r = w1 * S.sd3 a b c - W * S.sd3 b c q → S.Ls c a p r = w2 * S.sd3 a b c - W * S.sd3 c a q → ¬ (p = 0 ∧ r = 0) → ((-1000 < S.xs q ∨ (-1000 = S.xs q ∧ 0 < p)) ∧ (S.xs q < 1000 ∨ (S.xs q = 1000 ∧ p < 0)) ∧ (-1000 < S.ys q ∨ (-1000 = S.ys q ∧ 0 < r)) ∧ (S.ys q < 1000 ∨ (S.ys q = 1000 ∧ r < 0))) → False := by
      intro p r W w1 w2 w3 hw1 hw2 hw3 l1 l2 l3 hne0 hB
      have hpr : p * p + r * r ≠ 0 := by
        intro z
        have z1 : 0 ≤ p * p := by rcases Int.le_total 0 p with g | g; exact Int.mul_nonneg g g; exact Int.mul_nonneg_of_nonpos_of_nonpos g g
        have z2 : 0 ≤ r * r := by rcases Int.le_total 0 r with g | g; exact Int.mul_nonneg g g; exact Int.mul_nonneg_of_nonpos_of_nonpos g g
        have z3 : p = 0 := by rcases Int.mul_eq_zero.mp (show p * p = 0 by omega) with g | g <;> exact g
        have z4 : r = 0 := by rcases Int.mul_eq_zero.mp (show r * r = 0 by omega) with g | g <;> exact g
        exact hne0 ⟨z3, z4⟩
      obtain ⟨X, Y, Z, hg, -, hsg, hi⟩ := St.near_ex hd (x := S.xs q) (y := S.ys q) (s := 1) (p := p) (q := r) (p' := -r) (q' := p) (by decide) (by rw [Int.mul_neg]; omega)
      have bq := hinB q hq
      have hin : inner X Y Z := hi (by omega) (by omega) (by omega) (by omega)
      have inT1 : S.inT X Y Z a b c := by
        have v1 := hsg a b ha hb
        have v2 := hsg b c hb hc
        have v3 := hsg c a hc ha
        rw [St.Hs_1, l1] at v1
        rw [St.Hs_1, l2] at v2
        rw [St.Hs_1, l3] at v3
        refine ⟨?_, ?_, ?_⟩
        · rcases Int.lt_or_eq_of_le h1 with g | g
          · exact v1.1 g
          · exact v1.2.2.1 g.symm (by rw [← g, Int.mul_zero, Int.sub_zero]; exact Int.mul_pos hw3 g4)
        · rcases Int.lt_or_eq_of_le h2 with g | g
          · exact v2.1 g
          · exact v2.2.2.1 g.symm (by rw [← g, Int.mul_zero, Int.sub_zero]; exact Int.mul_pos hw1 g4)
        · rcases Int.lt_or_eq_of_le h3 with g | g
          · exact v3.1 g
          · exact v3.2.2.1 g.symm (by rw [← g, Int.mul_zero, Int.sub_zero]; exact Int.mul_pos hw2 g4)
      obtain ⟨v, d, hv2, hd2, hap, hin2⟩ := St.star hG' hq hqs hg hin (fun u v hu hv hz => (hsg u v hu hv).1 (by rw [St.Hs_1]; exact hz))
      rcases St.cover1 hA hcy hp hv hg hin ha hb hc hq hv2 hd2 h hap inT1 hin2 with ⟨z, -⟩ | ⟨z, -⟩ | ⟨z, -⟩
      · exact cq (Or.inl z)
      · exact cq (Or.inr (Or.inl z))
      · exact cq (Or.inr (Or.inr z))
    have bq0 := hinB q hq
    have ba := hinB a ha
    have bb := hinB b hb
    have bc := hinB c hc
    have pne : ∀ u : Nat, u < 40 → S.has u → q ≠ u → ¬ (S.xs u = S.xs q ∧ S.ys u = S.ys q) := fun u hu hus hne z => hne (hd q u hq hu hqs hus z.1.symm z.2.symm)
    have na := pne a ha g1 (fun z => cq (Or.inl z))
    have nb := pne b hb g2 (fun z => cq (Or.inr (Or.inl z)))
    have nc := pne c hc g3 (fun z => cq (Or.inr (Or.inr z)))
    -- the triangle lies in no border line
    have flatx : ∀ k : Int, ¬ (S.xs a = k ∧ S.xs b = k ∧ S.xs c = k) := fun k z => by
      have : S.sd3 a b c = 0 := by unfold St.sd3 St.sd; rw [z.1, z.2.1, z.2.2]; simp
      omega
    have flaty : ∀ k : Int, ¬ (S.ys a = k ∧ S.ys b = k ∧ S.ys c = k) := fun k z => by
      have : S.sd3 a b c = 0 := by unfold St.sd3 St.sd; rw [z.1, z.2.1, z.2.2]; simp
      omega
    have fx1 := flatx 1000
    have fx2 := flatx (-1000)
    have fy1 := flaty 1000
    have fy2 := flaty (-1000)
    by_cases z : S.xs a + S.xs b + S.xs c - 3 * S.xs q = 0 ∧ S.ys a + S.ys b + S.ys c - 3 * S.ys q = 0
    · -- the middle itself: another direction
      have ca := hd c a hc ha g3 g1
      have hca : ¬ (c = a) := by
        intro z2
        subst z2
        have : S.sd3 c b c = 0 := by unfold St.sd3 St.sd; grind
        omega
      have nca : ¬ (S.xs c = S.xs a ∧ S.ys c = S.ys a) := fun z2 => hca (ca z2.1 z2.2)
      exact main (S.xs a + 2 * S.xs b + 3 * S.xs c - 6 * S.xs q) (S.ys a + 2 * S.ys b + 3 * S.ys c - 6 * S.ys q) 6 1 2 3 (by decide) (by decide) (by decide) (by unfold St.Ls St.sd3 St.sd; grind) (by unfold St.Ls St.sd3 St.sd; grind) (by unfold St.Ls St.sd3 St.sd; grind) (by omega) ⟨by omega, by omega, by omega, by omega⟩
    · exact main (S.xs a + S.xs b + S.xs c - 3 * S.xs q) (S.ys a + S.ys b + S.ys c - 3 * S.ys q) 3 1 1 1 (by decide) (by decide) (by decide) (by unfold St.Ls St.sd3 St.sd; grind) (by unfold St.Ls St.sd3 St.sd; grind) (by unfold St.Ls St.sd3 St.sd; grind) z ⟨by omega, by omega, by omega, by omega⟩
