/-! SUMS over the edges of a mesh, each told in its direction; how often a place is covered. By hand. -/
def St.rot (S : St) (e : Nat) : Nat := e % 40 * 40 + (S.ap e).toNat
theorem St.pres {S : St} (hA : S.okA) (hcy : S.cyc) {e : Nat} (he : e < 1600) (hp : S.ap e ≠ -1) : ∃ c : Nat, c < 40 ∧ S.ap e = (c : Int) ∧ S.rot e = e % 40 * 40 + c ∧ S.ap (e % 40 * 40 + c) = ((e / 40 : Nat) : Int) ∧ S.ap (c * 40 + e / 40) = ((e % 40 : Nat) : Int) := by
  have h1 := hA e he
  obtain ⟨c, hc⟩ := Int.eq_ofNat_of_zero_le (show 0 ≤ S.ap e by omega)
  have hcb : c < 40 := by omega
  have h2 : S.ap (e / 40 * 40 + e % 40) = (c : Int) := by rw [show e / 40 * 40 + e % 40 = e by omega]; exact hc
  obtain ⟨k1, k2⟩ := hcy (e / 40) (e % 40) c (by omega) (by omega) hcb h2
  refine ⟨c, hcb, hc, ?_, k1, k2⟩
  unfold St.rot
  rw [hc]
  rfl
theorem St.rot_sum {S : St} (hA : S.okA) (hcy : S.cyc) (G : Nat → Int) : sumR 1600 (fun e => if S.ap e = -1 then 0 else G e) = sumR 1600 (fun e => if S.ap e = -1 then 0 else G (S.rot e)) := by
  have e1 : ∀ e : Nat, e < 1600 → (if S.ap e = -1 then 0 else G (S.rot e)) = sumR 1600 (fun q => if S.ap e ≠ -1 ∧ S.rot e = q then G q else 0) := by
    intro e he
    by_cases hp : S.ap e = -1
    · rw [if_pos hp]
      symm
      rw [sumR_congr (g := fun _ => 0) (fun q _ => if_neg (fun z => z.1 hp)), sumR_zero]
    · rw [if_neg hp]
      obtain ⟨c, hc, h1, h2, -⟩ := St.pres hA hcy he hp
      rw [sumR_one (k := S.rot e) (by rw [h2]; omega) (fun q _ hne => if_neg (fun z => hne z.2.symm)), if_pos ⟨hp, rfl⟩]
  rw [sumR_congr (f := fun e => if S.ap e = -1 then 0 else G (S.rot e)) e1, sumR_swap]
  apply sumR_congr
  intro q hq
  by_cases hp : S.ap q = -1
  · rw [if_pos hp]
    symm
    rw [sumR_congr (g := fun _ => 0), sumR_zero]
    intro e he
    rw [if_neg]
    rintro ⟨z1, z2⟩
    obtain ⟨c, hc, h1, h2, h3, h4⟩ := St.pres hA hcy he z1
    rw [h2] at z2
    rw [z2] at h3
    omega
  · rw [if_neg hp]
    obtain ⟨c, hc, h1, h2, h3, h4⟩ := St.pres hA hcy hq hp
    have hk : c * 40 + q / 40 < 1600 := by omega
    rw [sumR_one (k := c * 40 + q / 40) hk]
    · rw [if_pos]
      refine ⟨by omega, ?_⟩
      unfold St.rot
      rw [h4]
      omega
    · intro e he hne
      rw [if_neg]
      rintro ⟨z1, z2⟩
      obtain ⟨d, hd, g1, g2, g3, g4⟩ := St.pres hA hcy he z1
      rw [g2] at z2
      rw [z2] at g3
      apply hne
      have : (c : Int) = ((e / 40 : Nat) : Int) := by rw [← h1, g3]
      omega
/-- the sum over all edges of triangles, each in its direction -/
def St.Sg (S : St) (g : Nat → Nat → Int) : Int := sumR 1600 (fun e => if S.ap e = -1 then 0 else g (e / 40) (e % 40))
/-- three times that sum: by triangles, each from each of its edges -/
theorem St.Sg_tri {S : St} (hA : S.okA) (hcy : S.cyc) (g : Nat → Nat → Int) : 3 * S.Sg g = sumR 1600 (fun e => if S.ap e = -1 then 0 else g (e / 40) (e % 40) + g (e % 40) (S.ap e).toNat + g (S.ap e).toNat (e / 40)) := by
  have h1 := St.rot_sum hA hcy (fun e => g (e / 40) (e % 40))
  have h2 := St.rot_sum hA hcy (fun e => g (S.rot e / 40) (S.rot e % 40))
  have f1 : ∀ e : Nat, e < 1600 → (if S.ap e = -1 then 0 else g (S.rot e / 40) (S.rot e % 40)) = (if S.ap e = -1 then 0 else g (e % 40) (S.ap e).toNat) := by
    intro e he
    by_cases hp : S.ap e = -1
    · rw [if_pos hp, if_pos hp]
    · rw [if_neg hp, if_neg hp]
      obtain ⟨c, hc, k1, k2, -⟩ := St.pres hA hcy he hp
      rw [k2, k1, show (e % 40 * 40 + c) / 40 = e % 40 by omega, show (e % 40 * 40 + c) % 40 = c by omega]
      rfl
  have f2 : ∀ e : Nat, e < 1600 → (if S.ap e = -1 then 0 else g (S.rot (S.rot e) / 40) (S.rot (S.rot e) % 40)) = (if S.ap e = -1 then 0 else g (S.ap e).toNat (e / 40)) := by
    intro e he
    by_cases hp : S.ap e = -1
    · rw [if_pos hp, if_pos hp]
    · rw [if_neg hp, if_neg hp]
      obtain ⟨c, hc, k1, k2, k3, k4⟩ := St.pres hA hcy he hp
      have : S.rot (S.rot e) = c * 40 + e / 40 := by
        rw [k2]
        unfold St.rot
        rw [k3]
        omega
      rw [this, k1, show (c * 40 + e / 40) / 40 = c by omega, show (c * 40 + e / 40) % 40 = e / 40 by omega]
      rfl
  rw [sumR_congr f1] at h1
  rw [sumR_congr f1, sumR_congr f2] at h2
  have h3 : S.Sg g = sumR 1600 (fun e => if S.ap e = -1 then 0 else g (e % 40) (S.ap e).toNat) := h1
  have h4 : S.Sg g = sumR 1600 (fun e => if S.ap e = -1 then 0 else g (S.ap e).toNat (e / 40)) := h3.trans h2
  have e5 : ∀ e : Nat, e < 1600 → (if S.ap e = -1 then 0 else g (e / 40) (e % 40) + g (e % 40) (S.ap e).toNat + g (S.ap e).toNat (e / 40)) = ((if S.ap e = -1 then 0 else g (e / 40) (e % 40)) + (if S.ap e = -1 then 0 else g (e % 40) (S.ap e).toNat)) + (if S.ap e = -1 then 0 else g (S.ap e).toNat (e / 40)) := by
    intro e _
    by_cases hp : S.ap e = -1
    · simp [hp]
    · simp [hp]
  rw [sumR_congr e5, sumR_add, sumR_add, ← h3, ← h4]
  show 3 * S.Sg g = S.Sg g + S.Sg g + S.Sg g
  omega
/-! a place x / s, y / s -/
def St.Hs (S : St) (u v : Nat) (x y s : Int) : Int := (S.xs v - S.xs u) * (y - s * S.ys u) - (S.ys v - S.ys u) * (x - s * S.xs u)
/-- how an edge crosses the ray downward from a place -/
def St.wd (S : St) (x y s : Int) (u v : Nat) : Int :=
  if s * S.xs u < x ∧ x < s * S.xs v ∧ 0 < S.Hs u v x y s then 1 else if x < s * S.xs u ∧ s * S.xs v < x ∧ S.Hs u v x y s < 0 then -1 else 0
theorem St.Hs_anti (S : St) (u v : Nat) (x y s : Int) : S.Hs v u x y s = -S.Hs u v x y s := by
  unfold St.Hs
  grind
theorem St.wd_anti (S : St) (x y s : Int) (u v : Nat) : S.wd x y s v u = -S.wd x y s u v := by
  unfold St.wd
  rw [St.Hs_anti S u v]
  by_cases c1 : s * S.xs u < x ∧ x < s * S.xs v ∧ 0 < S.Hs u v x y s
  · rw [if_pos c1, if_neg (by omega), if_pos (by omega)]
  · by_cases c2 : x < s * S.xs u ∧ s * S.xs v < x ∧ S.Hs u v x y s < 0
    · rw [if_neg c1, if_pos c2, if_pos (by omega)]
      rfl
    · rw [if_neg c1, if_neg c2, if_neg (by omega), if_neg (by omega)]
      rfl
theorem sgn_a {p q r u v t : Int} (h : p * u + q * v + r * t = 0) (hp : p < 0) (hq : 0 < q) (hr : 0 < r) : (0 < v → 0 < t → 0 < u) ∧ (v < 0 → t < 0 → u < 0) := by
  constructor
  · intro h1 h2
    have a1 := Int.mul_pos hq h1
    have a2 := Int.mul_pos hr h2
    rcases Int.lt_trichotomy u 0 with g | g | g
    · have := Int.mul_pos_of_neg_of_neg hp g
      omega
    · subst g
      rw [Int.mul_zero] at h
      omega
    · exact g
  · intro h1 h2
    have a1 := Int.mul_neg_of_pos_of_neg hq h1
    have a2 := Int.mul_neg_of_pos_of_neg hr h2
    rcases Int.lt_trichotomy u 0 with g | g | g
    · exact g
    · subst g
      rw [Int.mul_zero] at h
      omega
    · have := Int.mul_neg_of_neg_of_pos hp g
      omega
theorem sgn_b {p q r u v t : Int} (h : p * u + q * v + r * t = 0) (hp : 0 < p) (hq : q < 0) (hr : r < 0) : (0 < v → 0 < t → 0 < u) ∧ (v < 0 → t < 0 → u < 0) := by
  refine sgn_a (p := -p) (q := -q) (r := -r) ?_ (by omega) (by omega) (by omega)
  rw [Int.neg_mul, Int.neg_mul, Int.neg_mul]
  omega
/-- no line through two points, and no point above or below, passes through the place -/
def St.gen (S : St) (x y s : Int) : Prop := 0 < s ∧ (∀ u : Nat, u < 40 → S.has u → s * S.xs u ≠ x) ∧ ∀ u v : Nat, u < 40 → v < 40 → S.has u → S.has v → u ≠ v → S.Hs u v x y s ≠ 0
abbrev St.inT (S : St) (x y s : Int) (a b c : Nat) : Prop := 0 < S.Hs a b x y s ∧ 0 < S.Hs b c x y s ∧ 0 < S.Hs c a x y s
theorem St.Hs_sum (S : St) (a b c : Nat) (x y s : Int) : S.Hs a b x y s + S.Hs b c x y s + S.Hs c a x y s = s * S.sd3 a b c := by
  unfold St.Hs St.sd3 St.sd
  grind
theorem St.Hs_bary (S : St) (a b c : Nat) (x y s : Int) : (s * S.xs a - x) * S.Hs b c x y s + (s * S.xs b - x) * S.Hs c a x y s + (s * S.xs c - x) * S.Hs a b x y s = 0 := by
  unfold St.Hs
  grind
/-- a triangle against the clock is crossed once by the ray from a place within, as often up as down from a place without -/
theorem St.wd_tri {S : St} {a b c : Nat} {x y s : Int} (hs : 0 < s) (ha : s * S.xs a ≠ x) (hb : s * S.xs b ≠ x) (hc : s * S.xs c ≠ x) (h1 : S.Hs a b x y s ≠ 0) (h2 : S.Hs b c x y s ≠ 0) (h3 : S.Hs c a x y s ≠ 0) (hp : 0 < S.sd3 a b c) :
    S.wd x y s a b + S.wd x y s b c + S.wd x y s c a = if S.inT x y s a b c then 1 else 0 := by
  have hsum := S.Hs_sum a b c x y s
  have hpos := Int.mul_pos hs hp
  have hb1 := S.Hs_bary a b c x y s
  have hb2 := S.Hs_bary b c a x y s
  have hb3 := S.Hs_bary c a b x y s
  unfold St.wd St.inT
  generalize hu : S.Hs a b x y s = u at *
  generalize hv : S.Hs b c x y s = v at *
  generalize ht : S.Hs c a x y s = t at *
  generalize hpa : s * S.xs a = pa at *
  generalize hpb : s * S.xs b = pb at *
  generalize hpc : s * S.xs c = pc at *
  rcases Int.lt_or_gt_of_ne ha with la | la <;> rcases Int.lt_or_gt_of_ne hb with lb | lb <;> rcases Int.lt_or_gt_of_ne hc with lc | lc
  · have : ¬ (0 < u ∧ 0 < v ∧ 0 < t) := fun z => by
      have e1 := Int.mul_neg_of_neg_of_pos (show pa - x < 0 by omega) z.2.1
      have e2 := Int.mul_neg_of_neg_of_pos (show pb - x < 0 by omega) z.2.2
      have e3 := Int.mul_neg_of_neg_of_pos (show pc - x < 0 by omega) z.1
      omega
    rw [if_neg this]
    repeat (first | rw [if_neg (by omega)])
    rfl
  · have k := sgn_b hb3 (by omega) (by omega) (by omega)
    (repeat' split) <;> omega
  · have k := sgn_b hb2 (by omega) (by omega) (by omega)
    (repeat' split) <;> omega
  · have k := sgn_a hb1 (by omega) (by omega) (by omega)
    (repeat' split) <;> omega
  · have k := sgn_b hb1 (by omega) (by omega) (by omega)
    (repeat' split) <;> omega
  · have k := sgn_a hb2 (by omega) (by omega) (by omega)
    (repeat' split) <;> omega
  · have k := sgn_a hb3 (by omega) (by omega) (by omega)
    (repeat' split) <;> omega
  · have : ¬ (0 < u ∧ 0 < v ∧ 0 < t) := fun z => by
      have e1 := Int.mul_pos (show 0 < pa - x by omega) z.2.1
      have e2 := Int.mul_pos (show 0 < pb - x by omega) z.2.2
      have e3 := Int.mul_pos (show 0 < pc - x by omega) z.1
      omega
    rw [if_neg this]
    repeat (first | rw [if_neg (by omega)])
    rfl
