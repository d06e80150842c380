/-! A MESH COVERS THE SQUARE: each place in general position lies in one triangle; each place in a closed one. By hand. -/
def St.dist (S : St) : Prop := ∀ p q : Nat, p < 40 → q < 40 → S.has p → S.has q → S.xs p = S.xs q → S.ys p = S.ys q → p = q
def St.pos (S : St) : Prop := ∀ a b c : Nat, a < 40 → b < 40 → c < 40 → S.ap (a * 40 + b) = (c : Int) → S.has a ∧ S.has b ∧ S.has c ∧ 0 < S.sd3 a b c
abbrev inner (x y s : Int) : Prop := -1000 * s < x ∧ x < 1000 * s ∧ -1000 * s < y ∧ y < 1000 * s
def St.cov (S : St) : Prop := ∀ x y s : Int, S.gen x y s → inner x y s → S.Sg (S.wd x y s) = 1
theorem St.sd3_rot (S : St) (a b c : Nat) : S.sd3 b c a = S.sd3 a b c := by
  unfold St.sd3 St.sd
  grind
theorem St.sd3_self (S : St) (a b : Nat) : S.sd3 a a b = 0 := by
  unfold St.sd3 St.sd
  grind
theorem St.sd3_self2 (S : St) (a b : Nat) : S.sd3 a b b = 0 := by
  unfold St.sd3 St.sd
  grind
theorem St.sd3_self3 (S : St) (a b : Nat) : S.sd3 a b a = 0 := by
  unfold St.sd3 St.sd
  grind
theorem St.pos_ne {S : St} {a b c : Nat} (h : 0 < S.sd3 a b c) : a ≠ b ∧ b ≠ c ∧ c ≠ a := by
  refine ⟨fun e => ?_, fun e => ?_, fun e => ?_⟩
  · subst e; rw [St.sd3_self] at h; omega
  · subst e; rw [St.sd3_self2] at h; omega
  · subst e; rw [St.sd3_self3] at h; omega
/-- what a code of the mesh says -/
theorem St.edge {S : St} (hA : S.okA) (hcy : S.cyc) (hp : S.pos) {e : Nat} (he : e < 1600) (hpr : S.ap e ≠ -1) : ∃ a b c : Nat, a < 40 ∧ b < 40 ∧ c < 40 ∧ e = a * 40 + b ∧ e / 40 = a ∧ e % 40 = b ∧ S.ap (a * 40 + b) = (c : Int) ∧ S.ap (b * 40 + c) = (a : Int) ∧ S.ap (c * 40 + a) = (b : Int) ∧ S.has a ∧ S.has b ∧ S.has c ∧ 0 < S.sd3 a b c ∧ a ≠ b ∧ b ≠ c ∧ c ≠ a := by
  obtain ⟨c, hc, h1, h2, h3, h4⟩ := St.pres hA hcy he hpr
  have e1 : S.ap (e / 40 * 40 + e % 40) = (c : Int) := by rw [show e / 40 * 40 + e % 40 = e by omega]; exact h1
  obtain ⟨k1, k2, k3, k4⟩ := hp (e / 40) (e % 40) c (by omega) (by omega) hc e1
  obtain ⟨n1, n2, n3⟩ := St.pos_ne k4
  exact ⟨e / 40, e % 40, c, by omega, by omega, hc, by omega, rfl, rfl, e1, h3, h4, k1, k2, k3, k4, n1, n2, n3⟩
/-- one where the place lies in the triangle of that edge -/
def St.ind (S : St) (x y s : Int) (e : Nat) : Int := if S.ap e ≠ -1 ∧ S.inT x y s (e / 40) (e % 40) (S.ap e).toNat then 1 else 0
theorem St.ind_sum {S : St} (hA : S.okA) (hcy : S.cyc) (hp : S.pos) {x y s : Int} (hg : S.gen x y s) : 3 * S.Sg (S.wd x y s) = sumR 1600 (S.ind x y s) := by
  rw [St.Sg_tri hA hcy]
  apply sumR_congr
  intro e he
  unfold St.ind
  by_cases hpr : S.ap e = -1
  · rw [if_pos hpr, if_neg (fun z => z.1 hpr)]
  · rw [if_neg hpr]
    obtain ⟨a, b, c, ha, hb, hc, e1, e2, e3, h1, h2, h3, g1, g2, g3, g4, n1, n2, n3⟩ := St.edge hA hcy hp he hpr
    have hap : S.ap e = (c : Int) := by rw [e1]; exact h1
    rw [e2, e3, hap]
    show S.wd x y s a b + S.wd x y s b c + S.wd x y s c a = _
    rw [St.wd_tri hg.1 (hg.2.1 a ha g1) (hg.2.1 b hb g2) (hg.2.1 c hc g3) (hg.2.2 a b ha hb g1 g2 n1) (hg.2.2 b c hb hc g2 g3 n2) (hg.2.2 c a hc ha g3 g1 n3) g4]
    have : ((c : Int) ≠ -1 ∧ S.inT x y s a b (c : Int).toNat) ↔ S.inT x y s a b c := ⟨fun z => z.2, fun z => ⟨by omega, z⟩⟩
    by_cases q : S.inT x y s a b c
    · rw [if_pos q, if_pos (this.mpr q)]
    · rw [if_neg q, if_neg (fun z => q (this.mp z))]
theorem St.cover {S : St} (hA : S.okA) (hcy : S.cyc) (hp : S.pos) (hv : S.cov) {x y s : Int} (hg : S.gen x y s) (hi : inner x y s) : ∃ a b c : Nat, a < 40 ∧ b < 40 ∧ c < 40 ∧ S.ap (a * 40 + b) = (c : Int) ∧ S.inT x y s a b c := by
  have h1 := St.ind_sum hA hcy hp hg
  rw [hv x y s hg hi] at h1
  obtain ⟨e, he, h2⟩ := sumR_pos (f := S.ind x y s) (n := 1600) (by rw [← h1]; decide)
  unfold St.ind at h2
  split at h2
  · rename_i hz
    obtain ⟨a, b, c, ha, hb, hc, e1, e2, e3, k1, -⟩ := St.edge hA hcy hp he hz.1
    have hap : S.ap e = (c : Int) := by rw [e1]; exact k1
    refine ⟨a, b, c, ha, hb, hc, k1, ?_⟩
    have := hz.2
    rw [e2, e3, hap] at this
    exact this
  · omega
/-- no place in general position lies in two triangles -/
theorem St.cover1 {S : St} (hA : S.okA) (hcy : S.cyc) (hp : S.pos) (hv : S.cov) {x y s : Int} (hg : S.gen x y s) (hi : inner x y s) {a b c a' b' c' : Nat} (ha : a < 40) (hb : b < 40) (hc : c < 40) (ha' : a' < 40) (hb' : b' < 40) (hc' : c' < 40)
    (h : S.ap (a * 40 + b) = (c : Int)) (h' : S.ap (a' * 40 + b') = (c' : Int)) (ht : S.inT x y s a b c) (ht' : S.inT x y s a' b' c') : (a' = a ∧ b' = b ∧ c' = c) ∨ (a' = b ∧ b' = c ∧ c' = a) ∨ (a' = c ∧ b' = a ∧ c' = b) := by
  have h1 := St.ind_sum hA hcy hp hg
  rw [hv x y s hg hi] at h1
  obtain ⟨k1, k2⟩ := hcy a b c ha hb hc h
  obtain ⟨g1, g2, g3, g4⟩ := hp a b c ha hb hc h
  obtain ⟨n1, n2, n3⟩ := St.pos_ne g4
  have one : ∀ u v w : Nat, u < 40 → v < 40 → w < 40 → S.ap (u * 40 + v) = (w : Int) → S.inT x y s u v w → S.ind x y s (u * 40 + v) = 1 := by
    intro u v w hu hv hw hap hin
    unfold St.ind
    rw [if_pos]
    rw [show (u * 40 + v) / 40 = u by omega, show (u * 40 + v) % 40 = v by omega, hap]
    exact ⟨by omega, hin⟩
  have i1 := one a b c ha hb hc h ht
  have i2 := one b c a hb hc ha k1 ⟨ht.2.1, ht.2.2, ht.1⟩
  have i3 := one c a b hc ha hb k2 ⟨ht.2.2, ht.1, ht.2.1⟩
  have i4 := one a' b' c' ha' hb' hc' h' ht'
  by_cases m1 : a' * 40 + b' = a * 40 + b
  · rw [m1, h] at h'
    exact Or.inl ⟨by omega, by omega, by omega⟩
  · by_cases m2 : a' * 40 + b' = b * 40 + c
    · rw [m2, k1] at h'
      exact Or.inr (Or.inl ⟨by omega, by omega, by omega⟩)
    · by_cases m3 : a' * 40 + b' = c * 40 + a
      · rw [m3, k2] at h'
        exact Or.inr (Or.inr ⟨by omega, by omega, by omega⟩)
      · exfalso
        have hp4 := sumR_part (f := S.ind x y s) (n := 1600) (fun k _ => by unfold St.ind; split <;> decide) [a * 40 + b, b * 40 + c, c * 40 + a, a' * 40 + b'] (by
          simp only [List.nodup_cons, List.mem_cons, List.not_mem_nil, or_false, not_or, not_false_eq_true, List.nodup_nil, and_true]
          exact ⟨⟨by omega, by omega, fun z => m1 z.symm⟩, ⟨by omega, fun z => m2 z.symm⟩, fun z => m3 z.symm⟩) (by
          intro k hk
          simp only [List.mem_cons, List.not_mem_nil, or_false] at hk
          omega)
        simp only [List.map_cons, List.map_nil, List.sum_cons, List.sum_nil, i1, i2, i3, i4] at hp4
        omega
/-! places near a place -/
theorem lex_pos {A B C K : Int} (hK : (if B < 0 then -B else B) + (if C < 0 then -C else C) < K) : (0 < A → 0 < K * K * A + K * B + C) ∧ (A < 0 → K * K * A + K * B + C < 0) ∧ (A = 0 → 0 < B → 0 < K * K * A + K * B + C) ∧ (A = 0 → B < 0 → K * K * A + K * B + C < 0) ∧ (A = 0 → B = 0 → K * K * A + K * B + C = C) := by
  have hK0 : 0 < K := by
    split at hK <;> split at hK <;> omega
  have hBu : K * B ≤ K * (K - 1) ∧ -(K * (K - 1)) ≤ K * B := by
    constructor
    · exact Int.mul_le_mul_of_nonneg_left (by split at hK <;> split at hK <;> omega) (by omega)
    · rw [← Int.mul_neg]
      exact Int.mul_le_mul_of_nonneg_left (by split at hK <;> split at hK <;> omega) (by omega)
  have hKK : K * (K - 1) = K * K - K := by rw [Int.mul_sub, Int.mul_one]
  have hC : C < K ∧ -K < C := by split at hK <;> split at hK <;> omega
  have hKp : 0 < K * K := Int.mul_pos hK0 hK0
  refine ⟨fun h => ?_, fun h => ?_, fun h g => ?_, fun h g => ?_, fun h g => ?_⟩
  · have : K * K * 1 ≤ K * K * A := Int.mul_le_mul_of_nonneg_left (by omega) (by omega)
    rw [Int.mul_one] at this
    omega
  · have : K * K * A ≤ K * K * (-1) := Int.mul_le_mul_of_nonneg_left (by omega) (by omega)
    rw [Int.mul_neg, Int.mul_one] at this
    omega
  · have : K * 1 ≤ K * B := Int.mul_le_mul_of_nonneg_left (by omega) (by omega)
    rw [Int.mul_one] at this
    subst h
    rw [Int.mul_zero]
    omega
  · have : K * B ≤ K * (-1) := Int.mul_le_mul_of_nonneg_left (by omega) (by omega)
    rw [Int.mul_neg, Int.mul_one] at this
    subst h
    rw [Int.mul_zero]
    omega
  · subst h
    subst g
    rw [Int.mul_zero, Int.mul_zero]
    omega
def iabs (x : Int) : Int := if x < 0 then -x else x
theorem iabs_0 (x : Int) : 0 ≤ iabs x := by unfold iabs; split <;> omega
/-- along a direction -/
def St.Ls (S : St) (u v : Nat) (p q : Int) : Int := (S.xs v - S.xs u) * q - (S.ys v - S.ys u) * p
/-- near the place x / s, y / s, in the direction p q, a little turned to p' q' -/
def St.near1 (S : St) (x y s p q X Y Z : Int) : Prop := S.gen X Y Z ∧ (inner x y s → inner X Y Z) ∧ (∀ u v : Nat, u < 40 → v < 40 → (0 < S.Hs u v x y s → 0 < S.Hs u v X Y Z) ∧ (S.Hs u v x y s < 0 → S.Hs u v X Y Z < 0) ∧ (S.Hs u v x y s = 0 → 0 < S.Ls u v p q → 0 < S.Hs u v X Y Z) ∧ (S.Hs u v x y s = 0 → S.Ls u v p q < 0 → S.Hs u v X Y Z < 0)) ∧
  ((-1000 * s < x ∨ (-1000 * s = x ∧ 0 < p)) → (x < 1000 * s ∨ (x = 1000 * s ∧ p < 0)) → (-1000 * s < y ∨ (-1000 * s = y ∧ 0 < q)) → (y < 1000 * s ∨ (y = 1000 * s ∧ q < 0)) → inner X Y Z)
theorem St.Hs_near (S : St) (u v : Nat) (x y s p q p' q' K : Int) : S.Hs u v (K * K * x + K * p + p') (K * K * y + K * q + q') (K * K * s) = K * K * S.Hs u v x y s + K * S.Ls u v p q + S.Ls u v p' q' := by
  unfold St.Hs St.Ls
  grind
theorem St.near_ex {S : St} (hd : S.dist) {x y s p q p' q' : Int} (hs : 0 < s) (hpq : p * q' - q * p' ≠ 0) : ∃ X Y Z : Int, S.near1 x y s p q X Y Z := by
  -- one K for all
  let F : Nat → Int := fun e => iabs (S.Ls (e / 40) (e % 40) p q) + iabs (S.Ls (e / 40) (e % 40) p' q')
  let K : Int := 1 + sumR 1600 F + (iabs p + iabs p') + (iabs q + iabs q')
  have hF : ∀ k : Nat, k < 1600 → 0 ≤ F k := fun k _ => by
    have := iabs_0 (S.Ls (k / 40) (k % 40) p q)
    have := iabs_0 (S.Ls (k / 40) (k % 40) p' q')
    show 0 ≤ iabs _ + iabs _
    omega
  have hF0 := sumR_nonneg hF
  have a1 := iabs_0 p
  have a2 := iabs_0 p'
  have a3 := iabs_0 q
  have a4 := iabs_0 q'
  have hKF : ∀ u v : Nat, u < 40 → v < 40 → iabs (S.Ls u v p q) + iabs (S.Ls u v p' q') < K := by
    intro u v hu hv
    have h1 := sumR_part (f := F) (n := 1600) hF [u * 40 + v] (by simp) (by simp; omega)
    simp only [List.map_cons, List.map_nil, List.sum_cons, List.sum_nil] at h1
    have h2 : F (u * 40 + v) = iabs (S.Ls u v p q) + iabs (S.Ls u v p' q') := by
      show iabs (S.Ls ((u * 40 + v) / 40) ((u * 40 + v) % 40) p q) + iabs (S.Ls ((u * 40 + v) / 40) ((u * 40 + v) % 40) p' q') = _
      rw [show (u * 40 + v) / 40 = u by omega, show (u * 40 + v) % 40 = v by omega]
    show _ < 1 + sumR 1600 F + (iabs p + iabs p') + (iabs q + iabs q')
    omega
  have hK0 : 0 < K := by
    show 0 < 1 + sumR 1600 F + (iabs p + iabs p') + (iabs q + iabs q')
    omega
  have hKp : iabs p + iabs p' < K := by
    show _ < 1 + sumR 1600 F + (iabs p + iabs p') + (iabs q + iabs q')
    omega
  have hKq : iabs q + iabs q' < K := by
    show _ < 1 + sumR 1600 F + (iabs p + iabs p') + (iabs q + iabs q')
    omega
  generalize K = K at *
  have hsq : 0 < K * K := Int.mul_pos hK0 hK0
  have hH : ∀ u v : Nat, u < 40 → v < 40 → _ := fun u v hu hv => lex_pos (A := S.Hs u v x y s) (hKF u v hu hv)
  have key : ∀ c : Int, K * K * x + K * p + p' - c * (K * K * s) = K * K * (x - c * s) + K * p + p' := fun c => by grind
  have key2 : ∀ c : Int, K * K * y + K * q + q' - c * (K * K * s) = K * K * (y - c * s) + K * q + q' := fun c => by grind
  refine ⟨K * K * x + K * p + p', K * K * y + K * q + q', K * K * s, ⟨Int.mul_pos hsq hs, fun u hu hus => ?_, fun u v hu hv hus hvs huv => ?_⟩, fun hin => ?_, fun u v hu hv => ?_, fun c1 c2 c3 c4 => ?_⟩
  · have h1 := lex_pos (A := x - S.xs u * s) (B := p) (C := p') hKp
    have h2 := key (S.xs u)
    intro z
    have h3 : K * K * (x - S.xs u * s) + K * p + p' = 0 := by
      rw [← h2, ← z, Int.mul_comm (S.xs u)]
      omega
    rcases Int.lt_trichotomy (x - S.xs u * s) 0 with g | g | g
    · have := h1.2.1 g; omega
    · rcases Int.lt_trichotomy p 0 with g2 | g2 | g2
      · have := h1.2.2.2.1 g g2; omega
      · have := h1.2.2.2.2 g g2
        have hp' : p' = 0 := by omega
        subst g2
        subst hp'
        rw [Int.zero_mul, Int.mul_zero] at hpq
        omega
      · have := h1.2.2.1 g g2; omega
    · have := h1.1 g; omega
  · rw [St.Hs_near]
    have h1 := hH u v hu hv
    intro z
    rcases Int.lt_trichotomy (S.Hs u v x y s) 0 with g | g | g
    · have := h1.2.1 g; omega
    · rcases Int.lt_trichotomy (S.Ls u v p q) 0 with g2 | g2 | g2
      · have := h1.2.2.2.1 g g2; omega
      · have g3 := h1.2.2.2.2 g g2
        have g4 : S.Ls u v p' q' = 0 := by omega
        unfold St.Ls at g2 g4
        have e1 : (S.xs v - S.xs u) * (p * q' - q * p') = 0 := by grind
        have e2 : (S.ys v - S.ys u) * (p * q' - q * p') = 0 := by grind
        have f1 := (Int.mul_eq_zero.mp e1).resolve_right hpq
        have f2 := (Int.mul_eq_zero.mp e2).resolve_right hpq
        exact huv (hd u v hu hv hus hvs (by omega) (by omega))
      · have := h1.2.2.1 g g2; omega
    · have := h1.1 g; omega
  · obtain ⟨i1, i2, i3, i4⟩ := hin
    have k1 := (lex_pos (A := x - (-1000) * s) (B := p) (C := p') hKp).1 (by omega)
    have k2 := (lex_pos (A := x - 1000 * s) (B := p) (C := p') hKp).2.1 (by omega)
    have k3 := (lex_pos (A := y - (-1000) * s) (B := q) (C := q') hKq).1 (by omega)
    have k4 := (lex_pos (A := y - 1000 * s) (B := q) (C := q') hKq).2.1 (by omega)
    rw [← key] at k1 k2
    rw [← key2] at k3 k4
    exact ⟨by omega, by omega, by omega, by omega⟩
  · rw [St.Hs_near]
    have h1 := hH u v hu hv
    exact ⟨h1.1, h1.2.1, h1.2.2.1, h1.2.2.2.1⟩
  · have l1 := lex_pos (A := x - (-1000) * s) (B := p) (C := p') hKp
    have l2 := lex_pos (A := x - 1000 * s) (B := p) (C := p') hKp
    have l3 := lex_pos (A := y - (-1000) * s) (B := q) (C := q') hKq
    have l4 := lex_pos (A := y - 1000 * s) (B := q) (C := q') hKq
    rw [← key] at l1 l2
    rw [← key2] at l3 l4
    refine ⟨?_, ?_, ?_, ?_⟩
    · rcases c1 with c | ⟨c, c'⟩
      · have := l1.1 (by omega); omega
      · have := l1.2.2.1 (by omega) c'; omega
    · rcases c2 with c | ⟨c, c'⟩
      · have := l2.2.1 (by omega); omega
      · have := l2.2.2.2.1 (by omega) c'; omega
    · rcases c3 with c | ⟨c, c'⟩
      · have := l3.1 (by omega); omega
      · have := l3.2.2.1 (by omega) c'; omega
    · rcases c4 with c | ⟨c, c'⟩
      · have := l4.2.1 (by omega); omega
      · have := l4.2.2.2.1 (by omega) c'; omega
theorem St.Hs_1 (S : St) (u v : Nat) (x y : Int) : S.Hs u v x y 1 = S.sd u v x y := by
  unfold St.Hs St.sd
  grind
/-- each place of the square lies in a closed triangle -/
theorem St.cover0 {S : St} (hA : S.okA) (hcy : S.cyc) (hp : S.pos) (hv : S.cov) (hd : S.dist) {x y : Int} (hq : inSq x y) : ∃ a b c : Nat, a < 40 ∧ b < 40 ∧ c < 40 ∧ S.ap (a * 40 + b) = (c : Int) ∧ 0 ≤ S.sd a b x y ∧ 0 ≤ S.sd b c x y ∧ 0 ≤ S.sd c a x y := by
  obtain ⟨q1, q2, q3, q4⟩ := hq
  have hne : (1 - 2 * x) * (1 - 2 * x) - (1 - 2 * y) * (-(1 - 2 * y)) ≠ 0 := by
    rw [Int.mul_neg]
    have h1 : 0 < (1 - 2 * x) * (1 - 2 * x) := by
      rcases Int.lt_or_gt_of_ne (show 1 - 2 * x ≠ 0 by omega) with g | g
      · exact Int.mul_pos_of_neg_of_neg g g
      · exact Int.mul_pos g g
    have h2 : 0 < (1 - 2 * y) * (1 - 2 * y) := by
      rcases Int.lt_or_gt_of_ne (show 1 - 2 * y ≠ 0 by omega) with g | g
      · exact Int.mul_pos_of_neg_of_neg g g
      · exact Int.mul_pos g g
    omega
  obtain ⟨X, Y, Z, hg, -, hsg, hi⟩ := St.near_ex hd (x := x) (y := y) (s := 1) (p := 1 - 2 * x) (q := 1 - 2 * y) (p' := -(1 - 2 * y)) (q' := 1 - 2 * x) (by decide) hne
  obtain ⟨a, b, c, ha, hb, hc, hap, t1, t2, t3⟩ := St.cover hA hcy hp hv hg (hi (by omega) (by omega) (by omega) (by omega))
  have h1 := (hsg a b ha hb).2.1
  have h2 := (hsg b c hb hc).2.1
  have h3 := (hsg c a hc ha).2.1
  rw [St.Hs_1] at h1 h2 h3
  refine ⟨a, b, c, ha, hb, hc, hap, ?_, ?_, ?_⟩
  · rcases Int.lt_or_le (S.sd a b x y) 0 with g | g
    · have := h1 g; omega
    · exact g
  · rcases Int.lt_or_le (S.sd b c x y) 0 with g | g
    · have := h2 g; omega
    · exact g
  · rcases Int.lt_or_le (S.sd c a x y) 0 with g | g
    · have := h3 g; omega
    · exact g
