/-! EARS of a hole about a point, and of a chain over a base. By hand. -/
def nx (n i : Nat) : Nat := if i + 1 < n then i + 1 else 0
def pvx (n i : Nat) : Nat := if i = 0 then n - 1 else i - 1
theorem nx_lt {n i : Nat} (h : i + 1 < n) : nx n i = i + 1 := if_pos h
theorem nx_end {n i : Nat} (h : ¬ i + 1 < n) : nx n i = 0 := if_neg h
theorem pv_0 (n : Nat) : pvx n 0 = n - 1 := if_pos rfl
theorem pv_pos {n i : Nat} (h : i ≠ 0) : pvx n i = i - 1 := if_neg h
/-- seen from p all lie about, one behind another -/
def St.P1 (S : St) (p : Nat) (w : Nat → Nat) (n : Nat) : Prop := 3 ≤ n ∧ (∀ i : Nat, i < n → 0 < S.sd3 p (w i) (w (nx n i))) ∧ ∀ i j : Nat, i < n → j < n → j ≠ i → j ≠ nx n i → ¬ (0 ≤ S.sd3 p (w i) (w j) ∧ 0 ≤ S.sd3 p (w j) (w (nx n i)))
/-- a chain seen from p over the base from its last to its first -/
def St.P2 (S : St) (p : Nat) (w : Nat → Nat) (n : Nat) : Prop := 3 ≤ n ∧ (∀ i j : Nat, i < j → j < n → ¬ (i = 0 ∧ j = n - 1) → 0 < S.sd3 p (w i) (w j)) ∧ 0 ≤ S.sd3 p (w 0) (w (n - 1)) ∧ ∀ j : Nat, 0 < j → j < n - 1 → 0 < S.sd3 (w (n - 1)) (w 0) (w j)
def St.earW (S : St) (w : Nat → Nat) (n i : Nat) : Prop := 0 < S.sd3 (w (pvx n i)) (w i) (w (nx n i)) ∧ ∀ j : Nat, j < n → j ≠ pvx n i → j ≠ i → j ≠ nx n i → ¬ (0 ≤ S.sd3 (w (pvx n i)) (w i) (w j) ∧ 0 ≤ S.sd3 (w i) (w (nx n i)) (w j) ∧ 0 ≤ S.sd3 (w (nx n i)) (w (pvx n i)) (w j))
theorem mul_pos_l {a b : Int} (ha : 0 < a) (h : 0 < a * b) : 0 < b := by
  rcases Int.lt_or_le 0 b with z | z
  · exact z
  · have := Int.mul_nonpos_of_nonneg_of_nonpos (show 0 ≤ a by omega) z
    omega
theorem mul_nn_l {a b : Int} (ha : 0 < a) (h : 0 ≤ a * b) : 0 ≤ b := by
  rcases Int.lt_or_le b 0 with z | z
  · have := Int.mul_neg_of_pos_of_neg ha z
    omega
  · exact z
/-- by the line from t to s: what bends -/
theorem St.conv_id (S : St) (p s t a b c : Nat) : (S.sd3 p s b + S.sd3 p b t) * S.sd3 a b c = (S.sd3 t s b - S.sd3 t s a) * S.sd3 p b c + (S.sd3 t s b - S.sd3 t s c) * S.sd3 p a b := by
  unfold St.sd3 St.sd
  grind
theorem St.sect_id (S : St) (p s t a b c : Nat) : (S.sd3 p s b + S.sd3 p b t) * S.sd3 p a c = (S.sd3 p s c + S.sd3 p c t) * S.sd3 p a b + (S.sd3 p s a + S.sd3 p a t) * S.sd3 p b c := by
  unfold St.sd3 St.sd
  grind
theorem St.plu (S : St) (p a b c d : Nat) : S.sd3 p a b * S.sd3 p c d + S.sd3 p a c * S.sd3 p d b + S.sd3 p a d * S.sd3 p b c = 0 := by
  unfold St.sd3 St.sd
  grind
theorem St.sd3_p (S : St) (p a b c : Nat) : S.sd3 a b c = S.sd3 p a b + S.sd3 p b c + S.sd3 p c a := by
  unfold St.sd3 St.sd
  grind
theorem St.sd3_an (S : St) (p a b : Nat) : S.sd3 p b a = -S.sd3 p a b := by
  unfold St.sd3 St.sd
  grind
/-- in the triangle, so in the sector -/
theorem St.in_sect {S : St} {p a b c q : Nat} (hA : 0 < S.sd3 a b c) (h1 : 0 ≤ S.sd3 p a b) (h2 : 0 ≤ S.sd3 p b c) (h3 : 0 ≤ S.sd3 p a c) (q1 : 0 ≤ S.sd3 a b q) (q2 : 0 ≤ S.sd3 b c q) (q3 : 0 ≤ S.sd3 c a q) : 0 ≤ S.sd3 p a q ∧ 0 ≤ S.sd3 p q c := by
  constructor
  · have e := S.bary3 a b c q p a
    rw [St.sd3_self3 S a p |> fun z => (show S.sd3 p a a = 0 from St.sd3_self2 S p a), Int.mul_zero] at e
    have m1 := Int.mul_nonneg q3 h1
    have m2 := Int.mul_nonneg q1 h3
    exact mul_nn_l hA (by omega)
  · have e := S.bary3 a b c q c p
    have r0 : S.sd3 c p q = S.sd3 p q c := (St.sd3_rot S c p q).symm
    have r1 : S.sd3 c p a = S.sd3 p a c := (St.sd3_rot S c p a).symm
    have r2 : S.sd3 c p b = S.sd3 p b c := (St.sd3_rot S c p b).symm
    have r3 : S.sd3 c p c = 0 := St.sd3_self3 S c p
    rw [r0, r1, r2, r3, Int.mul_zero] at e
    have m1 := Int.mul_nonneg q2 h3
    have m2 := Int.mul_nonneg q3 h2
    exact mul_nn_l hA (by omega)
theorem St.P1_small {S : St} {p : Nat} {w : Nat → Nat} {n i : Nat} (h : S.P1 p w n) (hi : i < n) (hA : 0 < S.sd3 (w (pvx n i)) (w i) (w (nx n i))) (hs : 0 < S.sd3 p (w (pvx n i)) (w (nx n i))) : S.earW w n i := by
  obtain ⟨h3, hp, hs2⟩ := h
  have hpv : pvx n i < n := by unfold pvx; split <;> omega
  have hnx : nx n i < n := by unfold nx; split <;> omega
  have enp : nx n (pvx n i) = i := by unfold nx pvx; (repeat' split) <;> omega
  have p1 := hp (pvx n i) hpv
  have p2 := hp i hi
  rw [enp] at p1
  refine ⟨hA, fun j hj j1 j2 j3 z => ?_⟩
  obtain ⟨g1, g2⟩ := St.in_sect hA (show 0 ≤ S.sd3 p (w (pvx n i)) (w i) by omega) (show 0 ≤ S.sd3 p (w i) (w (nx n i)) by omega) (by omega) z.1 z.2.1 z.2.2
  rcases Int.lt_or_le (S.sd3 p (w i) (w j)) 0 with c | c
  · have e := S.sd3_an p (w i) (w j)
    have := hs2 (pvx n i) j hpv hj j1 (by rw [enp]; exact j2)
    rw [enp] at this
    exact this ⟨g1, by omega⟩
  · exact hs2 i j hi hj j2 j3 ⟨c, g2⟩
/-- of several the first that is greatest -/
theorem first_max (f : Nat → Int) (a : Nat) : ∀ (d : Nat), ∃ i : Nat, a ≤ i ∧ i ≤ a + d ∧ (∀ j : Nat, a ≤ j → j < i → f j < f i) ∧ ∀ j : Nat, a ≤ j → j ≤ a + d → f j ≤ f i := by
  intro d
  induction d with
  | zero => exact ⟨a, by omega, by omega, fun j h1 h2 => by omega, fun j h1 h2 => by rw [show j = a by omega]; exact Int.le_refl _⟩
  | succ d ih =>
    obtain ⟨i, h1, h2, h3, h4⟩ := ih
    rcases Int.lt_or_le (f i) (f (a + (d + 1))) with c | c
    · refine ⟨a + (d + 1), by omega, by omega, fun j g1 g2 => ?_, fun j g1 g2 => ?_⟩
      · have := h4 j g1 (by omega)
        omega
      · by_cases e : j = a + (d + 1)
        · rw [e]; exact Int.le_refl _
        · have := h4 j g1 (by omega)
          omega
    · refine ⟨i, h1, by omega, h3, fun j g1 g2 => ?_⟩
      by_cases e : j = a + (d + 1)
      · rw [e]; exact c
      · exact h4 j g1 (by omega)
/-- a chain has an ear -/
theorem St.P2_ear {S : St} {p : Nat} {w : Nat → Nat} {n : Nat} (h : S.P2 p w n) : ∃ i : Nat, i < n ∧ S.earW w n i := by
  obtain ⟨h3, hp, h0, hh⟩ := h
  obtain ⟨i, i1, i2, i3, i4⟩ := first_max (fun j => S.sd3 (w (n - 1)) (w 0) (w j)) 1 (n - 3)
  have ei : nx n i = i + 1 := nx_lt (by omega)
  have ep : pvx n i = i - 1 := pv_pos (by omega)
  have hi0 := hh i (by omega) (by omega)
  have hprev : S.sd3 (w (n - 1)) (w 0) (w (i - 1)) < S.sd3 (w (n - 1)) (w 0) (w i) := by
    by_cases c : i = 1
    · rw [show i - 1 = 0 by omega, St.sd3_self2]
      exact hi0
    · exact i3 (i - 1) (by omega) (by omega)
  have hnext : S.sd3 (w (n - 1)) (w 0) (w (i + 1)) ≤ S.sd3 (w (n - 1)) (w 0) (w i) := by
    by_cases c : i + 1 = n - 1
    · rw [c, St.sd3_self3]
      omega
    · exact i4 (i + 1) (by omega) (by omega)
  have b1 := hp (i - 1) i (by omega) (by omega) (by omega)
  have b2 := hp i (i + 1) (by omega) (by omega) (by omega)
  have b0i : 0 < S.sd3 p (w 0) (w i) := hp 0 i (by omega) (by omega) (by omega)
  have bim : 0 < S.sd3 p (w i) (w (n - 1)) := hp i (n - 1) (by omega) (by omega) (by omega)
  have bac : 0 ≤ S.sd3 p (w (i - 1)) (w (i + 1)) := by
    by_cases c : i - 1 = 0 ∧ i + 1 = n - 1
    · rw [c.1, c.2]; exact h0
    · have := hp (i - 1) (i + 1) (by omega) (by omega) (by omega)
      omega
  have hA : 0 < S.sd3 (w (i - 1)) (w i) (w (i + 1)) := by
    have e := S.conv_id p (w 0) (w (n - 1)) (w (i - 1)) (w i) (w (i + 1))
    have m1 := Int.mul_pos (show 0 < S.sd3 (w (n - 1)) (w 0) (w i) - S.sd3 (w (n - 1)) (w 0) (w (i - 1)) by omega) b2
    have m2 := Int.mul_nonneg (show 0 ≤ S.sd3 (w (n - 1)) (w 0) (w i) - S.sd3 (w (n - 1)) (w 0) (w (i + 1)) by omega) (show 0 ≤ S.sd3 p (w (i - 1)) (w i) by omega)
    exact mul_pos_l (a := S.sd3 p (w 0) (w i) + S.sd3 p (w i) (w (n - 1))) (by omega) (by omega)
  refine ⟨i, by omega, ?_⟩
  unfold St.earW
  rw [ei, ep]
  refine ⟨hA, fun j hj j1 j2 j3 z => ?_⟩
  obtain ⟨g1, g2⟩ := St.in_sect hA (show 0 ≤ S.sd3 p (w (i - 1)) (w i) by omega) (show 0 ≤ S.sd3 p (w i) (w (i + 1)) by omega) bac z.1 z.2.1 z.2.2
  rcases Nat.lt_or_ge j i with c | c
  · have q := hp j (i - 1) (by omega) (by omega) (by omega)
    have := S.sd3_an p (w j) (w (i - 1))
    omega
  · have q := hp (i + 1) j (by omega) (by omega) (by omega)
    have := S.sd3_an p (w (i + 1)) (w j)
    omega
/-- where the farthest one stands first -/
theorem St.P1_ear0 {S : St} {p : Nat} {w : Nat → Nat} {n : Nat} (h : S.P1 p w n) (hfar : ∀ j : Nat, j < n → S.sq (w j) p ≤ S.sq (w 0) p) : ∃ i : Nat, i < n ∧ S.earW w n i := by
  have h' := h
  obtain ⟨h3, hp, hs⟩ := h
  by_cases n3 : n = 3
  · subst n3
    have a0 := hp 0 (by decide)
    have a1 := hp 1 (by decide)
    have a2 := hp 2 (by decide)
    have a0' : 0 < S.sd3 p (w 0) (w 1) := a0
    have a1' : 0 < S.sd3 p (w 1) (w 2) := a1
    have a2' : 0 < S.sd3 p (w 2) (w 0) := a2
    refine ⟨1, by decide, ?_, fun j hj j1 j2 j3 => ?_⟩
    · show 0 < S.sd3 (w 0) (w 1) (w 2)
      rw [S.sd3_p p]
      omega
    · have e1 : pvx 3 1 = 0 := rfl
      have e2 : nx 3 1 = 2 := rfl
      omega
  · have n4 : 4 ≤ n := by omega
    have p0 : 0 < S.sd3 p (w 0) (w 1) := by
      have := hp 0 (by omega)
      rw [nx_lt (by omega)] at this
      exact this
    have pm := hp (n - 1) (by omega)
    rw [nx_end (by omega)] at pm
    -- the farthest one bends
    have c0 : 0 < S.sd3 (w (n - 1)) (w 0) (w 1) := by
      have f1 := hfar (n - 1) (by omega)
      have f2 := hfar 1 (by omega)
      have key : S.sq (w 0) p * S.sd3 (w (n - 1)) (w 0) (w 1) * 2 = (S.sq (w 0) p - S.sq (w (n - 1)) p + S.sq (w 0) (w (n - 1))) * S.sd3 p (w 0) (w 1) + (S.sq (w 0) p - S.sq (w 1) p + S.sq (w 0) (w 1)) * S.sd3 p (w (n - 1)) (w 0) := by
        unfold St.sq St.sd3 St.sd
        grind
      have sqn : ∀ u v : Nat, 0 ≤ S.sq u v := fun u v => by
        unfold St.sq
        have z1 : ∀ t : Int, 0 ≤ t * t := fun t => by rcases Int.le_total 0 t with g | g; exact Int.mul_nonneg g g; exact Int.mul_nonneg_of_nonpos_of_nonpos g g
        have := z1 (S.xs u - S.xs v)
        have := z1 (S.ys u - S.ys v)
        omega
      have sq0 : ∀ u v : Nat, S.sq u v = 0 → S.xs u = S.xs v ∧ S.ys u = S.ys v := fun u v z => by
        unfold St.sq at z
        have z1 : ∀ t : Int, 0 ≤ t * t := fun t => by rcases Int.le_total 0 t with g | g; exact Int.mul_nonneg g g; exact Int.mul_nonneg_of_nonpos_of_nonpos g g
        have y1 := z1 (S.xs u - S.xs v)
        have y2 := z1 (S.ys u - S.ys v)
        have z3 : S.xs u - S.xs v = 0 := by rcases Int.mul_eq_zero.mp (show (S.xs u - S.xs v) * (S.xs u - S.xs v) = 0 by omega) with g | g <;> exact g
        have z4 : S.ys u - S.ys v = 0 := by rcases Int.mul_eq_zero.mp (show (S.ys u - S.ys v) * (S.ys u - S.ys v) = 0 by omega) with g | g <;> exact g
        omega
      have s1 := sqn (w 0) (w 1)
      have s2 := sqn (w 0) (w (n - 1))
      have s1' : 0 < S.sq (w 0) (w 1) := by
        rcases Int.lt_or_eq_of_le s1 with z | z
        · exact z
        · obtain ⟨z1, z2⟩ := sq0 _ _ z.symm
          unfold St.sd3 St.sd at p0
          rw [z1, z2] at p0
          grind
      have s3 : 0 < S.sq (w 0) p := by
        rcases Int.lt_or_eq_of_le (sqn (w 0) p) with z | z
        · exact z
        · obtain ⟨z1, z2⟩ := sq0 _ _ z.symm
          unfold St.sd3 St.sd at p0
          rw [z1, z2] at p0
          grind
      have m1 := Int.mul_nonneg (show 0 ≤ S.sq (w 0) p - S.sq (w (n - 1)) p + S.sq (w 0) (w (n - 1)) by omega) (show 0 ≤ S.sd3 p (w 0) (w 1) by omega)
      have m2 := Int.mul_pos (show 0 < S.sq (w 0) p - S.sq (w 1) p + S.sq (w 0) (w 1) by omega) pm
      exact mul_pos_l s3 (by omega)
    rcases Int.lt_or_le 0 (S.sd3 p (w (n - 1)) (w 1)) with g | g
    · refine ⟨0, by omega, St.P1_small h' (by omega) ?_ ?_⟩
      · rw [pv_0, nx_lt (by omega)]; exact c0
      · rw [pv_0, nx_lt (by omega)]; exact g
    · have g' : 0 ≤ S.sd3 p (w 1) (w (n - 1)) := by have := S.sd3_an p (w 1) (w (n - 1)); omega
      -- all others lie between
      have btw : ∀ j : Nat, 2 ≤ j → j ≤ n - 2 → 0 < S.sd3 p (w 1) (w j) ∧ 0 < S.sd3 p (w j) (w (n - 1)) := by
        intro j j1 j2
        have k1 := hs 0 j (by omega) (by omega) (by omega) (by rw [nx_lt (by omega)]; omega)
        rw [nx_lt (by omega)] at k1
        rw [Nat.zero_add] at k1
        have k2 := hs (n - 1) j (by omega) (by omega) (by omega) (by rw [nx_end (by omega)]; omega)
        rw [nx_end (by omega)] at k2
        have k1' : ¬ (0 ≤ S.sd3 p (w 0) (w j) ∧ 0 ≤ S.sd3 p (w j) (w 1)) := k1
        have pl := S.plu p (w 0) (w 1) (w j) (w (n - 1))
        have an1 := S.sd3_an p (w 1) (w j)
        have an2 := S.sd3_an p (w 0) (w j)
        have an3 := S.sd3_an p (w (n - 1)) (w j)
        have an4 := S.sd3_an p (w (n - 1)) (w 0)
        rcases Int.lt_or_le (S.sd3 p (w 0) (w j)) 0 with c | c
        · have q1 : 0 < S.sd3 p (w j) (w (n - 1)) := by
            rcases Int.lt_or_le 0 (S.sd3 p (w j) (w (n - 1))) with z | z
            · exact z
            · exact absurd ⟨by omega, by omega⟩ k2
          refine ⟨?_, q1⟩
          have t1 := Int.mul_pos p0 q1
          have t2 := Int.mul_nonneg_of_nonpos_of_nonpos (show S.sd3 p (w 0) (w j) ≤ 0 by omega) g
          rcases Int.lt_or_le 0 (S.sd3 p (w 1) (w j)) with z | z
          · exact z
          · have := Int.mul_nonneg_of_nonpos_of_nonpos (show S.sd3 p (w 0) (w (n - 1)) ≤ 0 by omega) z
            omega
        · have q1 : 0 < S.sd3 p (w 1) (w j) := by
            rcases Int.lt_or_le 0 (S.sd3 p (w 1) (w j)) with z | z
            · exact z
            · exact absurd ⟨by omega, by omega⟩ k1'
          refine ⟨q1, ?_⟩
          have t2 := Int.mul_nonpos_of_nonneg_of_nonpos c g
          have t3 := Int.mul_neg_of_neg_of_pos (show S.sd3 p (w 0) (w (n - 1)) < 0 by omega) q1
          exact mul_pos_l p0 (by omega)
      have phi : ∀ j : Nat, 1 ≤ j → j ≤ n - 1 → 0 ≤ S.sd3 p (w 1) (w j) + S.sd3 p (w j) (w (n - 1)) ∧ ((2 ≤ j ∧ j ≤ n - 2) → 0 < S.sd3 p (w 1) (w j) + S.sd3 p (w j) (w (n - 1))) := by
        intro j j1 j2
        by_cases c : 2 ≤ j ∧ j ≤ n - 2
        · have := btw j c.1 c.2
          exact ⟨by omega, fun _ => by omega⟩
        · refine ⟨?_, fun z => absurd z c⟩
          by_cases c2 : j = 1
          · rw [c2, St.sd3_self2]; omega
          · rw [show j = n - 1 by omega, St.sd3_self2]; omega
      by_cases cA : ∃ j : Nat, 2 ≤ j ∧ j ≤ n - 2 ∧ 0 < S.sd3 (w (n - 1)) (w 1) (w j)
      · obtain ⟨j0, j01, j02, j03⟩ := cA
        obtain ⟨i, i1, i2, i3, i4⟩ := first_max (fun j => S.sd3 (w (n - 1)) (w 1) (w j)) 2 (n - 4)
        have hi0 : 0 < S.sd3 (w (n - 1)) (w 1) (w i) := by
          have t : S.sd3 (w (n - 1)) (w 1) (w j0) ≤ S.sd3 (w (n - 1)) (w 1) (w i) := i4 j0 j01 (by omega)
          omega
        have ei : nx n i = i + 1 := nx_lt (by omega)
        have ep : pvx n i = i - 1 := pv_pos (by omega)
        have hprev : S.sd3 (w (n - 1)) (w 1) (w (i - 1)) < S.sd3 (w (n - 1)) (w 1) (w i) := by
          by_cases c : i = 2
          · rw [show i - 1 = 1 by omega, St.sd3_self2]
            exact hi0
          · exact i3 (i - 1) (by omega) (by omega)
        have hnext : S.sd3 (w (n - 1)) (w 1) (w (i + 1)) ≤ S.sd3 (w (n - 1)) (w 1) (w i) := by
          by_cases c : i + 1 = n - 1
          · rw [c, St.sd3_self3]
            omega
          · exact i4 (i + 1) (by omega) (by omega)
        have b1 := hp (i - 1) (by omega)
        rw [nx_lt (by omega), show i - 1 + 1 = i by omega] at b1
        have b2 := hp i (by omega)
        rw [ei] at b2
        have ph := (phi i (by omega) (by omega)).2 ⟨by omega, by omega⟩
        have hA : 0 < S.sd3 (w (i - 1)) (w i) (w (i + 1)) := by
          have e := S.conv_id p (w 1) (w (n - 1)) (w (i - 1)) (w i) (w (i + 1))
          have m1 := Int.mul_pos (show 0 < S.sd3 (w (n - 1)) (w 1) (w i) - S.sd3 (w (n - 1)) (w 1) (w (i - 1)) by omega) b2
          have m2 := Int.mul_nonneg (show 0 ≤ S.sd3 (w (n - 1)) (w 1) (w i) - S.sd3 (w (n - 1)) (w 1) (w (i + 1)) by omega) (show 0 ≤ S.sd3 p (w (i - 1)) (w i) by omega)
          exact mul_pos_l ph (by omega)
        have es := S.sect_id p (w 1) (w (n - 1)) (w (i - 1)) (w i) (w (i + 1))
        have ph1 := phi (i - 1) (by omega) (by omega)
        have ph2 := phi (i + 1) (by omega) (by omega)
        have s1 := Int.mul_nonneg ph2.1 (show 0 ≤ S.sd3 p (w (i - 1)) (w i) by omega)
        have s2 := Int.mul_nonneg ph1.1 (show 0 ≤ S.sd3 p (w i) (w (i + 1)) by omega)
        rcases Int.lt_or_le 0 (S.sd3 p (w (i - 1)) (w (i + 1))) with z | z
        · refine ⟨i, by omega, St.P1_small h' (by omega) ?_ ?_⟩
          · rw [ei, ep]; exact hA
          · rw [ei, ep]; exact z
        · have z0 := mul_nn_l ph (show 0 ≤ _ * S.sd3 p (w (i - 1)) (w (i + 1)) by omega)
          have z1 : S.sd3 p (w (i - 1)) (w (i + 1)) = 0 := by omega
          rw [z1, Int.mul_zero] at es
          have y1 := (Int.mul_eq_zero.mp (show (S.sd3 p (w 1) (w (i + 1)) + S.sd3 p (w (i + 1)) (w (n - 1))) * S.sd3 p (w (i - 1)) (w i) = 0 by omega)).resolve_right (by omega)
          have y2 := (Int.mul_eq_zero.mp (show (S.sd3 p (w 1) (w (i - 1)) + S.sd3 p (w (i - 1)) (w (n - 1))) * S.sd3 p (w i) (w (i + 1)) = 0 by omega)).resolve_right (by omega)
          have x1 : i + 1 = n - 1 := by
            apply Classical.byContradiction
            intro q
            have := ph2.2 ⟨by omega, by omega⟩
            omega
          have x2 : i - 1 = 1 := by
            apply Classical.byContradiction
            intro q
            have := ph1.2 ⟨by omega, by omega⟩
            omega
          refine ⟨i, by omega, ?_, fun j hj j1 j2 j3 zz => ?_⟩
          · rw [ei, ep]; exact hA
          · rw [ei, ep] at *
            have j0' : j = 0 := by omega
            rw [j0', x1, x2] at zz
            have t := zz.2.2
            rw [S.sd3_p p] at t
            have an1 := S.sd3_an p (w 0) (w 1)
            have an2 := S.sd3_an p (w (n - 1)) (w 0)
            have an3 := S.sd3_an p (w 1) (w (n - 1))
            rw [x1, x2] at z1
            omega
      · have hB : ∀ j : Nat, 2 ≤ j → j ≤ n - 2 → S.sd3 (w (n - 1)) (w 1) (w j) ≤ 0 := fun j j1 j2 => by
          rcases Int.lt_or_le 0 (S.sd3 (w (n - 1)) (w 1) (w j)) with z | z
          · exact absurd ⟨j, j1, j2, z⟩ cA
          · exact z
        have p1 := hp 1 (by omega)
        rw [nx_lt (by omega)] at p1
        have p1' : 0 < S.sd3 p (w 1) (w 2) := p1
        have p2 := hp (n - 2) (by omega)
        rw [nx_lt (by omega), show n - 2 + 1 = n - 1 by omega] at p2
        have B2 := btw 2 (by omega) (by omega)
        have Bn := btw (n - 2) (by omega) (by omega)
        have h2 := hB 2 (by omega) (by omega)
        have hn2 := hB (n - 2) (by omega) (by omega)
        have an0 := S.sd3_an p (w 1) (w (n - 1))
        have g1 : 0 < S.sd3 p (w 1) (w (n - 1)) := by
          have e := S.sd3_p p (w (n - 1)) (w 1) (w 2)
          have := S.sd3_an p (w (n - 1)) (w 2)
          omega
        have e0 := S.sd3_p p (w (n - 1)) (w 0) (w 1)
        -- the second one bends
        have c1 : 0 < S.sd3 (w 0) (w 1) (w 2) := by
          have e := S.conv_id p (w 0) (w (n - 1)) (w 0) (w 1) (w 2)
          rw [St.sd3_self2] at e
          have eb := S.bary3 p (w 1) (w (n - 1)) (w 2) (w (n - 1)) (w 0)
          rw [show S.sd3 (w (n - 1)) (w 0) (w (n - 1)) = 0 from St.sd3_self3 S _ _, Int.mul_zero] at eb
          have e1 : S.sd3 (w (n - 1)) (w 0) p = S.sd3 p (w (n - 1)) (w 0) := (St.sd3_rot S p (w (n - 1)) (w 0))
          have e2 : S.sd3 (w (n - 1)) p (w 2) = S.sd3 p (w 2) (w (n - 1)) := (St.sd3_rot S (w (n - 1)) p (w 2)).symm
          have e3 : S.sd3 (w 1) (w (n - 1)) (w 2) = -S.sd3 (w (n - 1)) (w 1) (w 2) := St.sd3_swap S (w (n - 1)) (w 1) (w 2)
          have es := S.bary0 p (w 1) (w (n - 1)) (w 2)
          rw [e1, e2, e3] at eb
          rw [e2, e3] at es
          have k : 0 < S.sd3 p (w 1) (w (n - 1)) * (S.sd3 (w (n - 1)) (w 0) (w 1) - S.sd3 (w (n - 1)) (w 0) (w 2)) := by
            have t1 := Int.mul_nonneg (show 0 ≤ -S.sd3 (w (n - 1)) (w 1) (w 2) by omega) (show 0 ≤ S.sd3 (w (n - 1)) (w 0) (w 1) - S.sd3 p (w (n - 1)) (w 0) by omega)
            have t2 := Int.mul_pos p1' c0
            have t3 : S.sd3 p (w 1) (w (n - 1)) * S.sd3 (w (n - 1)) (w 0) (w 1) = -S.sd3 (w (n - 1)) (w 1) (w 2) * S.sd3 (w (n - 1)) (w 0) (w 1) + S.sd3 p (w 2) (w (n - 1)) * S.sd3 (w (n - 1)) (w 0) (w 1) + S.sd3 p (w 1) (w 2) * S.sd3 (w (n - 1)) (w 0) (w 1) := by
              rw [← Int.add_mul, ← Int.add_mul, ← es]
            rw [Int.mul_sub] at t1 ⊢
            omega
          have k2 := mul_pos_l g1 k
          have m1 := Int.mul_pos c0 p1'
          have m2 := Int.mul_pos k2 p0
          refine mul_pos_l (a := S.sd3 p (w 0) (w 1) + S.sd3 p (w 1) (w (n - 1))) (by omega) ?_
          rw [e]
          rw [Int.sub_zero]
          have m2' : 0 < (S.sd3 (w (n - 1)) (w 0) (w 1) - S.sd3 (w (n - 1)) (w 0) (w 2)) * S.sd3 p (w 0) (w 1) := m2
          omega
        rcases Int.lt_or_le 0 (S.sd3 p (w 0) (w 2)) with z | z
        · refine ⟨1, by omega, St.P1_small h' (by omega) ?_ ?_⟩
          · rw [pv_pos (by decide), nx_lt (by omega)]; exact c1
          · rw [pv_pos (by decide), nx_lt (by omega)]; exact z
        · -- the last one bends
          have c2 : 0 < S.sd3 (w (n - 2)) (w (n - 1)) (w 0) := by
            have e := S.conv_id p (w 1) (w 0) (w (n - 2)) (w (n - 1)) (w 0)
            rw [show S.sd3 (w 0) (w 1) (w 0) = 0 from St.sd3_self3 S _ _] at e
            have eb := S.bary3 p (w 1) (w (n - 1)) (w (n - 2)) (w 0) (w 1)
            rw [show S.sd3 (w 0) (w 1) (w 1) = 0 from St.sd3_self2 S _ _, Int.mul_zero] at eb
            have e1 : S.sd3 (w 0) (w 1) p = S.sd3 p (w 0) (w 1) := (St.sd3_rot S p (w 0) (w 1))
            have e2 : S.sd3 (w (n - 1)) p (w (n - 2)) = S.sd3 p (w (n - 2)) (w (n - 1)) := (St.sd3_rot S (w (n - 1)) p (w (n - 2))).symm
            have e3 : S.sd3 (w 1) (w (n - 1)) (w (n - 2)) = -S.sd3 (w (n - 1)) (w 1) (w (n - 2)) := St.sd3_swap S (w (n - 1)) (w 1) (w (n - 2))
            have e4 : S.sd3 (w 0) (w 1) (w (n - 1)) = S.sd3 (w (n - 1)) (w 0) (w 1) := St.sd3_rot S (w (n - 1)) (w 0) (w 1)
            have es := S.bary0 p (w 1) (w (n - 1)) (w (n - 2))
            rw [e1, e3, e4] at eb
            rw [e2, e3] at es
            rw [e4] at e
            have k : 0 < S.sd3 p (w 1) (w (n - 1)) * (S.sd3 (w (n - 1)) (w 0) (w 1) - S.sd3 (w 0) (w 1) (w (n - 2))) := by
              have t1 := Int.mul_nonneg (show 0 ≤ -S.sd3 (w (n - 1)) (w 1) (w (n - 2)) by omega) (show 0 ≤ S.sd3 (w (n - 1)) (w 0) (w 1) - S.sd3 p (w 0) (w 1) by omega)
              have t2 := Int.mul_pos p2 c0
              have t3 : S.sd3 p (w 1) (w (n - 1)) * S.sd3 (w (n - 1)) (w 0) (w 1) = -S.sd3 (w (n - 1)) (w 1) (w (n - 2)) * S.sd3 (w (n - 1)) (w 0) (w 1) + S.sd3 p (w (n - 2)) (w (n - 1)) * S.sd3 (w (n - 1)) (w 0) (w 1) + S.sd3 p (w 1) (w (n - 2)) * S.sd3 (w (n - 1)) (w 0) (w 1) := by
                rw [← Int.add_mul, ← Int.add_mul, ← es]
              rw [Int.mul_sub] at t1 ⊢
              omega
            have k2 := mul_pos_l g1 k
            have m1 := Int.mul_pos k2 pm
            have m2 := Int.mul_pos c0 p2
            refine mul_pos_l (a := S.sd3 p (w 1) (w (n - 1)) + S.sd3 p (w (n - 1)) (w 0)) (by omega) ?_
            rw [e, Int.sub_zero]
            omega
          rcases Int.lt_or_le 0 (S.sd3 p (w (n - 2)) (w 0)) with y | y
          · refine ⟨n - 1, by omega, St.P1_small h' (by omega) ?_ ?_⟩
            · rw [pv_pos (by omega), nx_end (by omega)]; exact c2
            · rw [pv_pos (by omega), nx_end (by omega)]; exact y
          · by_cases n44 : n = 4
            · subst n44
              have z' : S.sd3 p (w 0) (w 2) ≤ 0 := z
              have y' : S.sd3 p (w 2) (w 0) ≤ 0 := y
              have an := S.sd3_an p (w 0) (w 2)
              refine ⟨1, by decide, c1, fun j hj j1 j2 j3 zz => ?_⟩
              have e1 : pvx 4 1 = 0 := rfl
              have e2 : nx 4 1 = 2 := rfl
              rw [e1] at j1 zz
              rw [e2] at j3 zz
              have j33 : j = 3 := by omega
              rw [j33] at zz
              have t := zz.2.2
              rw [S.sd3_p p] at t
              have pm' : 0 < S.sd3 p (w 3) (w 0) := pm
              have p2' : 0 < S.sd3 p (w 2) (w 3) := p2
              have an1 := S.sd3_an p (w 3) (w 0)
              have an2 := S.sd3_an p (w 2) (w 3)
              omega
            · exfalso
              -- the second and the last but one
              have mono : ∀ d : Nat, 3 + d ≤ n - 2 → 0 < S.sd3 p (w 2) (w (3 + d)) := by
                intro d
                induction d with
                | zero =>
                  intro _
                  have := hp 2 (by omega)
                  rw [nx_lt (by omega)] at this
                  exact this
                | succ d ih =>
                  intro hd
                  have i1 := ih (by omega)
                  have i2 := hp (3 + d) (by omega)
                  rw [nx_lt (by omega)] at i2
                  have e := S.sect_id p (w 1) (w (n - 1)) (w 2) (w (3 + d)) (w (3 + d + 1))
                  have q1 := (phi (3 + d) (by omega) (by omega)).2 ⟨by omega, by omega⟩
                  have q2 := (phi (3 + d + 1) (by omega) (by omega)).2 ⟨by omega, by omega⟩
                  have q3 := (phi 2 (by omega) (by omega)).2 ⟨by omega, by omega⟩
                  have r1 := Int.mul_pos q2 i1
                  have r2 := Int.mul_pos q3 i2
                  exact mul_pos_l q1 (by rw [show 3 + (d + 1) = 3 + d + 1 by omega]; omega)
              have m := mono (n - 5) (by omega)
              rw [show 3 + (n - 5) = n - 2 by omega] at m
              have e := S.sect_id p (w 1) (w (n - 1)) (w 2) (w 0) (w (n - 2))
              have an1 := S.sd3_an p (w 0) (w 1)
              have an2 := S.sd3_an p (w (n - 1)) (w 0)
              have an3 := S.sd3_an p (w 0) (w 2)
              have an4 := S.sd3_an p (w 0) (w (n - 2))
              have q2 := (phi 2 (by omega) (by omega)).2 ⟨by omega, by omega⟩
              have q3 := (phi (n - 2) (by omega) (by omega)).2 ⟨by omega, by omega⟩
              have r1 := Int.mul_neg_of_neg_of_pos (show S.sd3 p (w 1) (w 0) + S.sd3 p (w 0) (w (n - 1)) < 0 by omega) m
              have r2 := Int.mul_nonneg (show 0 ≤ S.sd3 p (w 1) (w (n - 2)) + S.sd3 p (w (n - 2)) (w (n - 1)) by omega) (show 0 ≤ S.sd3 p (w 2) (w 0) by omega)
              have r3 := Int.mul_nonneg (show 0 ≤ S.sd3 p (w 1) (w 2) + S.sd3 p (w 2) (w (n - 1)) by omega) (show 0 ≤ S.sd3 p (w 0) (w (n - 2)) by omega)
              omega
