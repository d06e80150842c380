/-! AN EAR CUT: what is left of the hole. By hand. -/
def ro (n F j : Nat) : Nat := if F + j < n then F + j else F + j - n
theorem ro_lt {n F j : Nat} (hF : F < n) (hj : j < n) : ro n F j < n := by unfold ro; split <;> omega
theorem ro_nx {n F j : Nat} (hF : F < n) (hj : j < n) : nx n (ro n F j) = ro n F (nx n j) := by unfold ro nx; (repeat' split) <;> omega
theorem ro_pv {n F j : Nat} (hF : F < n) (hj : j < n) : pvx n (ro n F j) = ro n F (pvx n j) := by unfold ro pvx; (repeat' split) <;> omega
theorem ro_inj {n F i j : Nat} (hF : F < n) (hi : i < n) (hj : j < n) (h : ro n F i = ro n F j) : i = j := by unfold ro at h; split at h <;> split at h <;> omega
theorem ro_onto {n F k : Nat} (hF : F < n) (hk : k < n) : ∃ j : Nat, j < n ∧ ro n F j = k := by
  by_cases c : F ≤ k
  · exact ⟨k - F, by omega, by unfold ro; rw [if_pos (by omega)]; omega⟩
  · exact ⟨k + n - F, by omega, by unfold ro; rw [if_neg (by omega)]; omega⟩
theorem nx_lt_n {n j : Nat} (hj : j < n) : nx n j < n := by unfold nx; split <;> omega
theorem pv_lt_n {n j : Nat} (hj : j < n) : pvx n j < n := by unfold pvx; split <;> omega
theorem St.P1_rot {S : St} {p : Nat} {w : Nat → Nat} {n F : Nat} (hF : F < n) (h : S.P1 p w n) : S.P1 p (fun j => w (ro n F j)) n := by
  obtain ⟨h3, hp, hs⟩ := h
  refine ⟨h3, fun i hi => ?_, fun i j hi hj h1 h2 => ?_⟩
  · have := hp (ro n F i) (ro_lt hF hi)
    rw [ro_nx hF hi] at this
    exact this
  · have := hs (ro n F i) (ro n F j) (ro_lt hF hi) (ro_lt hF hj) (fun z => h1 (ro_inj hF hj hi z)) (fun z => h2 (by rw [ro_nx hF hi] at z; exact ro_inj hF hj (nx_lt_n hi) z))
    rw [ro_nx hF hi] at this
    exact this
theorem St.earW_rot {S : St} {w : Nat → Nat} {n F i : Nat} (hF : F < n) (hi : i < n) : S.earW (fun j => w (ro n F j)) n i ↔ S.earW w n (ro n F i) := by
  unfold St.earW
  rw [ro_nx hF hi, ro_pv hF hi]
  constructor
  · rintro ⟨z1, z2⟩
    refine ⟨z1, fun j hj j1 j2 j3 => ?_⟩
    obtain ⟨k, hk, e⟩ := ro_onto hF hj
    have := z2 k hk (fun z => j1 (by rw [← e, z])) (fun z => j2 (by rw [← e, z])) (fun z => j3 (by rw [← e, z]))
    rw [← e]
    exact this
  · rintro ⟨z1, z2⟩
    exact ⟨z1, fun j hj j1 j2 j3 => z2 (ro n F j) (ro_lt hF hj) (fun z => j1 (ro_inj hF hj (pv_lt_n hi) z)) (fun z => j2 (ro_inj hF hj hi z)) (fun z => j3 (ro_inj hF hj (nx_lt_n hi) z))⟩
/-- a hole about a point has an ear -/
theorem St.P1_ear {S : St} {p : Nat} {w : Nat → Nat} {n : Nat} (h : S.P1 p w n) : ∃ i : Nat, i < n ∧ S.earW w n i := by
  obtain ⟨F, h1, h2, -, h4⟩ := first_max (fun j => S.sq (w j) p) 0 (n - 1)
  have hF : F < n := by have := h.1; omega
  obtain ⟨i, hi, he⟩ := St.P1_ear0 (St.P1_rot hF h) (fun j hj => by
    show S.sq (w (ro n F j)) p ≤ S.sq (w (ro n F 0)) p
    have := h4 (ro n F j) (by omega) (by have := ro_lt hF hj; omega)
    rw [show ro n F 0 = F by unfold ro; rw [if_pos (by omega)]; rfl]
    exact this)
  exact ⟨ro n F i, ro_lt hF hi, (St.earW_rot hF hi).mp he⟩
def rmv (w : Nat → Nat) (i j : Nat) : Nat := if j < i then w j else w (j + 1)
/-- the line from a to c is crossed by one from p to v, or p lies on it -/
def St.spoke (S : St) (p a c : Nat) (V : Nat → Prop) : Prop := (∃ v : Nat, V v ∧ opp (S.sd3 a c p) (S.sd3 a c v) ∧ opp (S.sd3 p v a) (S.sd3 p v c)) ∨ (∃ b : Nat, S.sd3 a c p = 0 ∧ 0 < S.sd3 a b c ∧ 0 < S.sd3 p a b ∧ 0 < S.sd3 p b c)
theorem St.spoke_mono {S : St} {p a c : Nat} {V V' : Nat → Prop} (h : S.spoke p a c V) (hV : ∀ v : Nat, V v → V' v) : S.spoke p a c V' := by
  rcases h with ⟨v, h1, h2⟩ | h
  · exact Or.inl ⟨v, hV v h1, h2⟩
  · exact Or.inr h
theorem St.P1_cut {S : St} {p : Nat} {w : Nat → Nat} {n i : Nat} (h : S.P1 p w n) (h4 : 4 ≤ n) (hi : i < n) (hA : 0 < S.sd3 (w (pvx n i)) (w i) (w (nx n i))) (hs : 0 < S.sd3 p (w (pvx n i)) (w (nx n i))) : S.P1 p (rmv w i) (n - 1) ∧ S.spoke p (w (pvx n i)) (w (nx n i)) (fun v => ∃ j : Nat, j < n ∧ v = w j) := by
  obtain ⟨h3, hp, hs2⟩ := h
  have hpv := pv_lt_n hi
  have hnx := nx_lt_n hi
  have enp : nx n (pvx n i) = i := by unfold nx pvx; (repeat' split) <;> omega
  have p1 := hp (pvx n i) hpv
  have p2 := hp i hi
  rw [enp] at p1
  have idx : ∀ j : Nat, j < n - 1 → ∃ s : Nat, s < n ∧ s ≠ i ∧ rmv w i j = w s ∧ s = (if j < i then j else j + 1) ∧ ((nx n s ≠ i ∧ rmv w i (nx (n - 1) j) = w (nx n s)) ∨ (s = pvx n i ∧ rmv w i (nx (n - 1) j) = w (nx n i))) := by
    intro j hj
    refine ⟨if j < i then j else j + 1, by split <;> omega, by split <;> omega, by unfold rmv; split <;> rfl, rfl, ?_⟩
    by_cases c : nx n (if j < i then j else j + 1) = i
    · right
      constructor
      · unfold nx at c; unfold pvx; (repeat' split at c) <;> (repeat' split) <;> omega
      · unfold rmv
        have : (if nx (n - 1) j < i then nx (n - 1) j else nx (n - 1) j + 1) = nx n i := by
          unfold nx at *; (repeat' split at c) <;> (repeat' split) <;> omega
        rw [← this]
        split <;> rfl
    · refine Or.inl ⟨c, ?_⟩
      unfold rmv
      have : (if nx (n - 1) j < i then nx (n - 1) j else nx (n - 1) j + 1) = nx n (if j < i then j else j + 1) := by
        unfold nx at *; (repeat' split at c) <;> (repeat' split) <;> omega
      rw [← this]
      split <;> rfl
  refine ⟨⟨by omega, fun j hj => ?_, fun j l hj hl h1 h2 => ?_⟩, Or.inl ⟨w i, ⟨i, hi, rfl⟩, ?_, ?_⟩⟩
  · obtain ⟨s, s1, s2, s3, -, s4⟩ := idx j hj
    rw [s3]
    rcases s4 with ⟨s5, s6⟩ | ⟨s5, s6⟩
    · rw [s6]; exact hp s s1
    · rw [s6, s5]; exact hs
  · obtain ⟨s, s1, s2, s3, s7, s4⟩ := idx j hj
    obtain ⟨t, t1, t2, t3, t7, -⟩ := idx l hl
    have hst : t ≠ s := by
      intro z
      rw [s7, t7] at z
      apply h1
      split at z <;> split at z <;> omega
    rw [s3, t3]
    rcases s4 with ⟨s5, s6⟩ | ⟨s5, s6⟩
    · rw [s6]
      refine hs2 s t s1 t1 hst (fun z => ?_)
      apply h2
      rw [t7, s7] at z
      unfold nx at *
      (repeat' split at z) <;> (repeat' split at s5) <;> (repeat' split) <;> omega
    · rw [s6, s5]
      rintro ⟨z1, z2⟩
      have ht : t ≠ nx n i := by
        intro z
        apply h2
        rw [t7] at z
        rw [s7] at s5
        unfold nx pvx at *
        (repeat' split at z) <;> (repeat' split at s5) <;> (repeat' split) <;> omega
      rcases Int.lt_or_le (S.sd3 p (w i) (w t)) 0 with c | c
      · have e := S.sd3_an p (w i) (w t)
        have := hs2 (pvx n i) t hpv t1 (by rw [← s5]; exact hst) (by rw [enp]; exact t2)
        rw [enp] at this
        exact this ⟨z1, by omega⟩
      · exact hs2 i t hi t1 t2 ht ⟨c, z2⟩
  · have e1 : S.sd3 (w (pvx n i)) (w (nx n i)) p = S.sd3 p (w (pvx n i)) (w (nx n i)) := St.sd3_rot S p _ _
    have e2 : S.sd3 (w (pvx n i)) (w (nx n i)) (w i) = -S.sd3 (w (pvx n i)) (w i) (w (nx n i)) := by unfold St.sd3 St.sd; grind
    exact Or.inr ⟨by omega, by omega⟩
  · have e := S.sd3_an p (w (pvx n i)) (w i)
    exact Or.inl ⟨by omega, p2⟩
/-- where the first one's sector is wide -/
theorem St.P1_wide {S : St} {p : Nat} {w : Nat → Nat} {n : Nat} (h : S.P1 p w n) (h4 : 4 ≤ n) (g : S.sd3 p (w (n - 1)) (w 1) ≤ 0) : ∀ a b : Nat, 1 ≤ a → a < b → b ≤ n - 1 → ¬ (a = 1 ∧ b = n - 1) → 0 < S.sd3 p (w a) (w b) := by
  obtain ⟨h3, hp, hs⟩ := h
  have p0 : 0 < S.sd3 p (w 0) (w 1) := by
    have := hp 0 (by omega)
    rw [nx_lt (by omega)] at this
    exact this
  have pm := hp (n - 1) (by omega)
  rw [nx_end (by omega)] at pm
  have g' : 0 ≤ S.sd3 p (w 1) (w (n - 1)) := by have := S.sd3_an p (w 1) (w (n - 1)); omega
  have btw : ∀ j : Nat, 2 ≤ j → j ≤ n - 2 → 0 < S.sd3 p (w 1) (w j) ∧ 0 < S.sd3 p (w j) (w (n - 1)) := by
    intro j j1 j2
    have k1 := hs 0 j (by omega) (by omega) (by omega) (by rw [nx_lt (by omega)]; omega)
    rw [nx_lt (by omega)] at k1
    rw [Nat.zero_add] at k1
    have k2 := hs (n - 1) j (by omega) (by omega) (by omega) (by rw [nx_end (by omega)]; omega)
    rw [nx_end (by omega)] at k2
    have pl := S.plu p (w 0) (w 1) (w j) (w (n - 1))
    have an1 := S.sd3_an p (w 1) (w j)
    have an2 := S.sd3_an p (w 0) (w j)
    have an3 := S.sd3_an p (w (n - 1)) (w j)
    have an4 := S.sd3_an p (w (n - 1)) (w 0)
    rcases Int.lt_or_le (S.sd3 p (w 0) (w j)) 0 with c | c
    · have q1 : 0 < S.sd3 p (w j) (w (n - 1)) := by
        rcases Int.lt_or_le 0 (S.sd3 p (w j) (w (n - 1))) with z | z
        · exact z
        · exact absurd ⟨by omega, by omega⟩ k2
      refine ⟨?_, q1⟩
      have t1 := Int.mul_pos p0 q1
      have t2 := Int.mul_nonneg_of_nonpos_of_nonpos (show S.sd3 p (w 0) (w j) ≤ 0 by omega) g
      rcases Int.lt_or_le 0 (S.sd3 p (w 1) (w j)) with z | z
      · exact z
      · have := Int.mul_nonneg_of_nonpos_of_nonpos (show S.sd3 p (w 0) (w (n - 1)) ≤ 0 by omega) z
        omega
    · have q1 : 0 < S.sd3 p (w 1) (w j) := by
        rcases Int.lt_or_le 0 (S.sd3 p (w 1) (w j)) with z | z
        · exact z
        · exact absurd ⟨by omega, by omega⟩ k1
      refine ⟨q1, ?_⟩
      have t2 := Int.mul_nonpos_of_nonneg_of_nonpos c g
      have t3 := Int.mul_neg_of_neg_of_pos (show S.sd3 p (w 0) (w (n - 1)) < 0 by omega) q1
      exact mul_pos_l p0 (by omega)
  have phi : ∀ j : Nat, 2 ≤ j → j ≤ n - 2 → 0 < S.sd3 p (w 1) (w j) + S.sd3 p (w j) (w (n - 1)) := fun j j1 j2 => by
    have := btw j j1 j2
    omega
  intro a b a1 ab b1 hne
  by_cases ca : a = 1
  · rw [ca]; exact (btw b (by omega) (by omega)).1
  · by_cases cb : b = n - 1
    · rw [cb]; exact (btw a (by omega) (by omega)).2
    · have mono : ∀ d : Nat, a + 1 + d ≤ n - 2 → 0 < S.sd3 p (w a) (w (a + 1 + d)) := by
        intro d
        induction d with
        | zero =>
          intro _
          have := hp a (by omega)
          rw [nx_lt (by omega)] at this
          exact this
        | succ d ih =>
          intro hd
          have i1 := ih (by omega)
          have i2 := hp (a + 1 + d) (by omega)
          rw [nx_lt (by omega)] at i2
          have e := S.sect_id p (w 1) (w (n - 1)) (w a) (w (a + 1 + d)) (w (a + 1 + d + 1))
          have q1 := phi (a + 1 + d) (by omega) (by omega)
          have q2 := phi (a + 1 + d + 1) (by omega) (by omega)
          have q3 := phi a (by omega) (by omega)
          have r1 := Int.mul_pos q2 i1
          have r2 := Int.mul_pos q3 i2
          exact mul_pos_l q1 (by rw [show a + 1 + (d + 1) = a + 1 + d + 1 by omega]; omega)
      have := mono (b - a - 1) (by omega)
      rw [show a + 1 + (b - a - 1) = b by omega] at this
      exact this
/-- an ear at the first one, its sector wide: a chain is left -/
theorem St.P1_open {S : St} {p : Nat} {w : Nat → Nat} {n : Nat} (h : S.P1 p w n) (h4 : 4 ≤ n) (he : S.earW w n 0) (g : S.sd3 p (w (n - 1)) (w 1) ≤ 0) : S.P2 p (fun j => w (j + 1)) (n - 1) ∧ S.spoke p (w (n - 1)) (w 1) (fun v => ∃ j : Nat, j < n ∧ v = w j) := by
  have hw := St.P1_wide h h4 g
  obtain ⟨h3, hp, hs⟩ := h
  obtain ⟨hA, hE⟩ := he
  rw [pv_0, nx_lt (by omega), Nat.zero_add] at hA
  have p0 : 0 < S.sd3 p (w 0) (w 1) := by
    have := hp 0 (by omega)
    rw [nx_lt (by omega)] at this
    exact this
  have pm := hp (n - 1) (by omega)
  rw [nx_end (by omega)] at pm
  have g' : 0 ≤ S.sd3 p (w 1) (w (n - 1)) := by have := S.sd3_an p (w 1) (w (n - 1)); omega
  have hh : ∀ j : Nat, 2 ≤ j → j ≤ n - 2 → 0 < S.sd3 (w (n - 1)) (w 1) (w j) := by
    intro j j1 j2
    rcases Int.lt_or_le 0 (S.sd3 (w (n - 1)) (w 1) (w j)) with z | z
    · exact z
    · exfalso
      have k := hE j (by omega) (by rw [pv_0]; omega) (by omega) (by rw [nx_lt (by omega)]; omega)
      rw [pv_0, nx_lt (by omega), Nat.zero_add] at k
      have b1 := hw 1 j (by omega) (by omega) (by omega) (by omega)
      have bn := hw j (n - 1) (by omega) (by omega) (by omega) (by omega)
      have e0 := S.sd3_p p (w (n - 1)) (w 1) (w j)
      have an1 := S.sd3_an p (w 1) (w (n - 1))
      have gp : 0 < S.sd3 p (w 1) (w (n - 1)) := by have := S.sd3_an p (w (n - 1)) (w j); omega
      apply k
      have r1 : S.sd3 (w 1) (w (n - 1)) (w j) = -S.sd3 (w (n - 1)) (w 1) (w j) := St.sd3_swap S _ _ _
      have r2 : S.sd3 (w (n - 1)) p (w j) = S.sd3 p (w j) (w (n - 1)) := (St.sd3_rot S (w (n - 1)) p (w j)).symm
      have r3 : S.sd3 (w (n - 1)) (w 0) p = S.sd3 p (w (n - 1)) (w 0) := St.sd3_rot S p _ _
      have r4 : S.sd3 (w 0) (w 1) p = S.sd3 p (w 0) (w 1) := St.sd3_rot S p _ _
      have r5 : S.sd3 (w 0) (w 1) (w (n - 1)) = S.sd3 (w (n - 1)) (w 0) (w 1) := St.sd3_rot S (w (n - 1)) (w 0) (w 1)
      refine ⟨?_, ?_, by omega⟩
      · have e := S.bary3 p (w 1) (w (n - 1)) (w j) (w (n - 1)) (w 0)
        rw [r1, r2, r3, St.sd3_self3, Int.mul_zero] at e
        have t1 := Int.mul_nonneg (show 0 ≤ -S.sd3 (w (n - 1)) (w 1) (w j) by omega) (show 0 ≤ S.sd3 p (w (n - 1)) (w 0) by omega)
        have t2 := Int.mul_pos bn hA
        exact mul_nn_l gp (by omega)
      · have e := S.bary3 p (w 1) (w (n - 1)) (w j) (w 0) (w 1)
        rw [r1, r2, r4, r5, St.sd3_self2, Int.mul_zero] at e
        have t1 := Int.mul_nonneg (show 0 ≤ -S.sd3 (w (n - 1)) (w 1) (w j) by omega) (show 0 ≤ S.sd3 p (w 0) (w 1) by omega)
        have t2 := Int.mul_pos b1 hA
        exact mul_nn_l gp (by omega)
  refine ⟨⟨by omega, fun i j hij hj hne => ?_, ?_, fun j j1 j2 => ?_⟩, ?_⟩
  · exact hw (i + 1) (j + 1) (by omega) (by omega) (by omega) (by omega)
  · show 0 ≤ S.sd3 p (w (0 + 1)) (w (n - 1 - 1 + 1))
    rw [show n - 1 - 1 + 1 = n - 1 by omega]
    exact g'
  · show 0 < S.sd3 (w (n - 1 - 1 + 1)) (w (0 + 1)) (w (j + 1))
    rw [show n - 1 - 1 + 1 = n - 1 by omega]
    exact hh (j + 1) (by omega) (by omega)
  · have e1 : S.sd3 (w (n - 1)) (w 1) p = S.sd3 p (w (n - 1)) (w 1) := St.sd3_rot S p _ _
    rcases Int.lt_or_eq_of_le g with g2 | g2
    · refine Or.inl ⟨w 2, ⟨2, by omega, rfl⟩, Or.inl ⟨by omega, hh 2 (by omega) (by omega)⟩, ?_⟩
      have b1 := hw 1 2 (by omega) (by omega) (by omega) (by omega)
      have bn := hw 2 (n - 1) (by omega) (by omega) (by omega) (by omega)
      have an := S.sd3_an p (w 1) (w 2)
      exact Or.inr ⟨bn, by omega⟩
    · exact Or.inr ⟨w 0, by omega, hA, pm, p0⟩
/-- an ear of a chain cut -/
theorem St.P2_cut {S : St} {p : Nat} {w : Nat → Nat} {n i : Nat} (h : S.P2 p w n) (h4 : 4 ≤ n) (hi : i < n) (he : S.earW w n i) : S.P2 p (rmv w i) (n - 1) ∧ S.spoke p (w (pvx n i)) (w (nx n i)) (fun v => ∃ j : Nat, j < n ∧ v = w j) := by
  obtain ⟨h3, hp, h0, hh⟩ := h
  obtain ⟨hA, hE⟩ := he
  by_cases c0 : i = 0
  · subst c0
    rw [pv_0, nx_lt (by omega), Nat.zero_add] at hA hE ⊢
    have e : ∀ j : Nat, rmv w 0 j = w (j + 1) := fun j => by unfold rmv; rw [if_neg (by omega)]
    have p1m := hp 1 (n - 1) (by omega) (by omega) (by omega)
    have p01 := hp 0 1 (by omega) (by omega) (by omega)
    have hh1 : ∀ j : Nat, 2 ≤ j → j ≤ n - 2 → 0 < S.sd3 (w (n - 1)) (w 1) (w j) := by
      intro j j1 j2
      rcases Int.lt_or_le 0 (S.sd3 (w (n - 1)) (w 1) (w j)) with z | z
      · exact z
      · exfalso
        have k := hE j (by omega) (by omega) (by omega) (by omega)
        apply k
        have b1 := hp 1 j (by omega) (by omega) (by omega)
        have bn := hp j (n - 1) (by omega) (by omega) (by omega)
        have r1 : S.sd3 (w 1) (w (n - 1)) (w j) = -S.sd3 (w (n - 1)) (w 1) (w j) := St.sd3_swap S _ _ _
        have r4 : S.sd3 (w 0) (w 1) p = S.sd3 p (w 0) (w 1) := St.sd3_rot S p _ _
        have r5 : S.sd3 (w 0) (w 1) (w (n - 1)) = S.sd3 (w (n - 1)) (w 0) (w 1) := St.sd3_rot S (w (n - 1)) (w 0) (w 1)
        have hj := hh j (by omega) (by omega)
        refine ⟨by omega, ?_, by omega⟩
        have e := S.bary3 p (w 1) (w (n - 1)) (w j) (w 0) (w 1)
        rw [r1, r4, r5, St.sd3_self2, Int.mul_zero] at e
        have t1 := Int.mul_nonneg (show 0 ≤ -S.sd3 (w (n - 1)) (w 1) (w j) by omega) (show 0 ≤ S.sd3 p (w 0) (w 1) by omega)
        have t2 := Int.mul_pos b1 hA
        exact mul_nn_l p1m (by omega)
    refine ⟨⟨by omega, fun a b hab hb hne => ?_, ?_, fun j j1 j2 => ?_⟩, ?_⟩
    · rw [e, e]; exact hp (a + 1) (b + 1) (by omega) (by omega) (by omega)
    · rw [e, e, show n - 1 - 1 + 1 = n - 1 by omega]
      show 0 ≤ S.sd3 p (w 1) (w (n - 1))
      omega
    · rw [e, e, e, show n - 1 - 1 + 1 = n - 1 by omega]
      exact hh1 (j + 1) (by omega) (by omega)
    · have an := S.sd3_an p (w 1) (w (n - 1))
      have e1 : S.sd3 (w (n - 1)) (w 1) p = S.sd3 p (w (n - 1)) (w 1) := St.sd3_rot S p _ _
      refine Or.inl ⟨w 2, ⟨2, by omega, rfl⟩, Or.inl ⟨by omega, hh1 2 (by omega) (by omega)⟩, ?_⟩
      have b1 := hp 1 2 (by omega) (by omega) (by omega)
      have bn := hp 2 (n - 1) (by omega) (by omega) (by omega)
      have an := S.sd3_an p (w 1) (w 2)
      exact Or.inr ⟨bn, by omega⟩
  · by_cases c1 : i = n - 1
    · have ep : pvx n i = n - 2 := by rw [pv_pos c0]; omega
      have en : nx n i = 0 := nx_end (by omega)
      rw [ep, en] at hA hE ⊢
      rw [c1] at hA hE
      have e : ∀ j : Nat, j < n - 1 → rmv w i j = w j := fun j hj => by unfold rmv; rw [if_pos (by omega)]
      have p0m := hp 0 (n - 2) (by omega) (by omega) (by omega)
      have pmm := hp (n - 2) (n - 1) (by omega) (by omega) (by omega)
      have hh1 : ∀ j : Nat, 1 ≤ j → j ≤ n - 3 → 0 < S.sd3 (w (n - 2)) (w 0) (w j) := by
        intro j j1 j2
        rcases Int.lt_or_le 0 (S.sd3 (w (n - 2)) (w 0) (w j)) with z | z
        · exact z
        · exfalso
          have k := hE j (by omega) (by omega) (by omega) (by omega)
          apply k
          have b1 := hp 0 j (by omega) (by omega) (by omega)
          have bn := hp j (n - 2) (by omega) (by omega) (by omega)
          have r1 : S.sd3 (w 0) (w (n - 2)) (w j) = -S.sd3 (w (n - 2)) (w 0) (w j) := St.sd3_swap S _ _ _
          have r2 : S.sd3 (w (n - 2)) p (w j) = S.sd3 p (w j) (w (n - 2)) := (St.sd3_rot S (w (n - 2)) p (w j)).symm
          have r4 : S.sd3 (w (n - 2)) (w (n - 1)) p = S.sd3 p (w (n - 2)) (w (n - 1)) := St.sd3_rot S p _ _
          have hj := hh j (by omega) (by omega)
          refine ⟨?_, by omega, by omega⟩
          have e := S.bary3 p (w 0) (w (n - 2)) (w j) (w (n - 2)) (w (n - 1))
          rw [r1, r2, r4, St.sd3_self3, Int.mul_zero] at e
          have t1 := Int.mul_nonneg (show 0 ≤ -S.sd3 (w (n - 2)) (w 0) (w j) by omega) (show 0 ≤ S.sd3 p (w (n - 2)) (w (n - 1)) by omega)
          have t2 := Int.mul_pos bn hA
          exact mul_nn_l p0m (by omega)
      refine ⟨⟨by omega, fun a b hab hb hne => ?_, ?_, fun j j1 j2 => ?_⟩, ?_⟩
      · rw [e a (by omega), e b (by omega)]; exact hp a b (by omega) (by omega) (by omega)
      · rw [e 0 (by omega), e (n - 1 - 1) (by omega), show n - 1 - 1 = n - 2 by omega]
        omega
      · rw [e (n - 1 - 1) (by omega), e 0 (by omega), e j (by omega), show n - 1 - 1 = n - 2 by omega]
        exact hh1 j (by omega) (by omega)
      · have an := S.sd3_an p (w 0) (w (n - 2))
        have e1 : S.sd3 (w (n - 2)) (w 0) p = S.sd3 p (w (n - 2)) (w 0) := St.sd3_rot S p _ _
        refine Or.inl ⟨w 1, ⟨1, by omega, rfl⟩, Or.inl ⟨by omega, hh1 1 (by omega) (by omega)⟩, ?_⟩
        have b1 := hp 0 1 (by omega) (by omega) (by omega)
        have bn := hp 1 (n - 2) (by omega) (by omega) (by omega)
        have an := S.sd3_an p (w 0) (w 1)
        exact Or.inr ⟨bn, by omega⟩
    · have ep : pvx n i = i - 1 := pv_pos c0
      have en : nx n i = i + 1 := nx_lt (by omega)
      rw [ep, en] at hA hE ⊢
      have bac : 0 < S.sd3 p (w (i - 1)) (w (i + 1)) := hp (i - 1) (i + 1) (by omega) (by omega) (by omega)
      have b1 := hp (i - 1) i (by omega) (by omega) (by omega)
      have b2 := hp i (i + 1) (by omega) (by omega) (by omega)
      have e : ∀ j : Nat, rmv w i j = w (if j < i then j else j + 1) := fun j => by unfold rmv; split <;> rfl
      have e00 : (if 0 < i then 0 else 0 + 1) = 0 := if_pos (by omega)
      have emm : (if n - 1 - 1 < i then n - 1 - 1 else n - 1 - 1 + 1) = n - 1 := by rw [if_neg (by omega)]; omega
      refine ⟨⟨by omega, fun a b hab hb hne => ?_, ?_, fun j j1 j2 => ?_⟩, ?_⟩
      · rw [e, e]; exact hp _ _ (by split <;> split <;> omega) (by split <;> omega) (by split <;> split <;> omega)
      · rw [e, e, e00, emm]; exact h0
      · rw [e, e, e, e00, emm]; exact hh _ (by split <;> omega) (by split <;> omega)
      · have r1 : S.sd3 (w (i - 1)) (w (i + 1)) p = S.sd3 p (w (i - 1)) (w (i + 1)) := St.sd3_rot S p _ _
        have r2 : S.sd3 (w (i - 1)) (w (i + 1)) (w i) = -S.sd3 (w (i - 1)) (w i) (w (i + 1)) := by unfold St.sd3 St.sd; grind
        have an := S.sd3_an p (w (i - 1)) (w i)
        exact Or.inl ⟨w i, ⟨i, by omega, rfl⟩, Or.inr ⟨by omega, by omega⟩, Or.inl ⟨by omega, b2⟩⟩
/-- a hole: about p, or a chain over a base -/
def St.Hole (S : St) (p : Nat) (r : Nat → Nat) (n : Nat) : Prop := S.P1 p r n ∨ ∃ F : Nat, F < n ∧ S.P2 p (fun j => r (ro n F j)) n
theorem St.P2_congr {S : St} {p : Nat} {w w' : Nat → Nat} {n : Nat} (h : S.P2 p w n) (e : ∀ j : Nat, j < n → w' j = w j) : S.P2 p w' n := by
  obtain ⟨h3, hp, h0, hh⟩ := h
  refine ⟨h3, fun i j hij hj hne => ?_, ?_, fun j j1 j2 => ?_⟩
  · rw [e i (by omega), e j hj]; exact hp i j hij hj hne
  · rw [e 0 (by omega), e (n - 1) (by omega)]; exact h0
  · rw [e (n - 1) (by omega), e 0 (by omega), e j (by omega)]; exact hh j j1 j2
theorem St.hole_ear {S : St} {p : Nat} {r : Nat → Nat} {n : Nat} (h : S.Hole p r n) : ∃ i : Nat, i < n ∧ S.earW r n i := by
  rcases h with h | ⟨F, hF, h⟩
  · exact St.P1_ear h
  · obtain ⟨i, hi, he⟩ := St.P2_ear h
    exact ⟨ro n F i, ro_lt hF hi, (St.earW_rot hF hi).mp he⟩
theorem St.hole_cut {S : St} {p : Nat} {r : Nat → Nat} {n k : Nat} (h : S.Hole p r n) (h4 : 4 ≤ n) (hk : k < n) (he : S.earW r n k) : S.Hole p (rmv r k) (n - 1) ∧ S.spoke p (r (pvx n k)) (r (nx n k)) (fun v => ∃ j : Nat, j < n ∧ v = r j) := by
  rcases h with h | ⟨F, hF, h⟩
  · rcases Int.lt_or_le 0 (S.sd3 p (r (pvx n k)) (r (nx n k))) with g | g
    · obtain ⟨h1, h2⟩ := St.P1_cut h h4 hk he.1 g
      exact ⟨Or.inl h1, h2⟩
    · have e0 : ro n k 0 = k := by unfold ro; rw [if_pos (by omega)]; rfl
      have e1 : ro n k (n - 1) = pvx n k := by unfold ro pvx; (repeat' split) <;> omega
      have e2 : ro n k 1 = nx n k := by unfold ro nx; (repeat' split) <;> omega
      obtain ⟨h1, h2⟩ := St.P1_open (St.P1_rot hk h) h4 ((St.earW_rot hk (by omega)).mpr (by rw [e0]; exact he)) (by show S.sd3 p (r (ro n k (n - 1))) (r (ro n k 1)) ≤ 0; rw [e1, e2]; exact g)
      refine ⟨Or.inr ⟨if k < n - 1 then k else 0, by split <;> omega, St.P2_congr h1 (fun j hj => ?_)⟩, ?_⟩
      · show rmv r k (ro (n - 1) (if k < n - 1 then k else 0) j) = r (ro n k (j + 1))
        unfold rmv
        have : (if ro (n - 1) (if k < n - 1 then k else 0) j < k then ro (n - 1) (if k < n - 1 then k else 0) j else ro (n - 1) (if k < n - 1 then k else 0) j + 1) = ro n k (j + 1) := by
          unfold ro
          (repeat' split) <;> omega
        rw [← this]
        exact (apply_ite r _ _ _).symm
      · have h2' : S.spoke p (r (ro n k (n - 1))) (r (ro n k 1)) (fun v => ∃ j : Nat, j < n ∧ v = r (ro n k j)) := h2
        rw [e1, e2] at h2'
        exact St.spoke_mono h2' (fun v ⟨j, j1, j2⟩ => ⟨ro n k j, ro_lt hk j1, j2⟩)
  · obtain ⟨i, hi, ei⟩ := ro_onto hF hk
    obtain ⟨h1, h2⟩ := St.P2_cut h h4 hi ((St.earW_rot hF hi).mpr (by rw [ei]; exact he))
    refine ⟨Or.inr ⟨if F ≤ k then (if F < n - 1 then F else 0) else F - 1, by (repeat' split) <;> omega, St.P2_congr h1 (fun j hj => ?_)⟩, ?_⟩
    · unfold rmv
      show (if ro (n - 1) (if F ≤ k then (if F < n - 1 then F else 0) else F - 1) j < k then r (ro (n - 1) (if F ≤ k then (if F < n - 1 then F else 0) else F - 1) j) else r (ro (n - 1) (if F ≤ k then (if F < n - 1 then F else 0) else F - 1) j + 1)) = if j < i then r (ro n F j) else r (ro n F (j + 1))
      have : (if ro (n - 1) (if F ≤ k then (if F < n - 1 then F else 0) else F - 1) j < k then ro (n - 1) (if F ≤ k then (if F < n - 1 then F else 0) else F - 1) j else ro (n - 1) (if F ≤ k then (if F < n - 1 then F else 0) else F - 1) j + 1) = if j < i then ro n F j else ro n F (j + 1) := by
        unfold ro at ei ⊢
        (repeat' split at ei) <;> (repeat' split) <;> omega
      have f1 : ∀ (P Q : Prop) [Decidable P] [Decidable Q] (a b c d : Nat), (if P then a else b) = (if Q then c else d) → (if P then r a else r b) = (if Q then r c else r d) := by
        intro P Q _ _ a b c d hz
        split at hz <;> split at hz <;> simp_all
      exact f1 _ _ _ _ _ _ this
    · have h2' : S.spoke p (r (ro n F (pvx n i))) (r (ro n F (nx n i))) (fun v => ∃ j : Nat, j < n ∧ v = r (ro n F j)) := h2
      rw [← ro_pv hF hi, ← ro_nx hF hi, ei] at h2'
      exact St.spoke_mono h2' (fun v ⟨j, j1, j2⟩ => ⟨ro n F j, ro_lt hF j1, j2⟩)
