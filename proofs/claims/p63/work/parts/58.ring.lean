/-! THE RING about a point that may be taken out. By hand. -/
theorem St.lin_id (S : St) (p v u c : Nat) : S.sd3 p v c * (S.xs u - S.xs p) = S.sd3 p u c * (S.xs v - S.xs p) + S.sd3 p v u * (S.xs c - S.xs p) ∧ S.sd3 p v c * (S.ys u - S.ys p) = S.sd3 p u c * (S.ys v - S.ys p) + S.sd3 p v u * (S.ys c - S.ys p) := by
  unfold St.sd3 St.sd
  constructor <;> grind
/-- near p, in a direction: in which triangle at p -/
theorem St.near_p {S : St} (hG : S.Geo) {p : Nat} (hp : p < 40) (hin : ¬ S.onB p) {dx dy : Int} (hne : ¬ (dx = 0 ∧ dy = 0)) : ∃ X Y Z : Int, S.gen X Y Z ∧ inner X Y Z ∧ ∀ a b : Nat, a < 40 → b < 40 → S.has a → S.has b → 0 < S.sd3 p a b → ((0 < S.Ls p a dx dy → 0 < S.Hs p a X Y Z) ∧ (S.Ls p a dx dy < 0 → S.Hs p a X Y Z < 0) ∧ (S.Ls p b dx dy < 0 → 0 < S.Hs b p X Y Z) ∧ 0 < S.Hs a b X Y Z) := by
  have bp := hG.1 p hp
  obtain ⟨X, Y, Z, hg, hi, hsg, -⟩ := St.near_ex hG.2.1 (x := S.xs p) (y := S.ys p) (s := 1) (p := dx) (q := dy) (p' := -dy) (q' := dx) (by decide) (sq_nz hne)
  refine ⟨X, Y, Z, hg, hi ⟨by unfold St.onB at hin; omega, by unfold St.onB at hin; omega, by unfold St.onB at hin; omega, by unfold St.onB at hin; omega⟩, fun a b ha hb sa sb hpos => ?_⟩
  have h1 := hsg p a hp ha
  have h2 := hsg b p hb hp
  have h3 := hsg a b ha hb
  rw [St.Hs_1] at h1 h2 h3
  have e1 : S.sd p a (S.xs p) (S.ys p) = 0 := St.sd3_self3 S p a
  have e2 : S.sd b p (S.xs p) (S.ys p) = 0 := St.sd3_self2 S b p
  have e3 : S.sd a b (S.xs p) (S.ys p) = S.sd3 p a b := St.sd3_rot S p a b
  have e4 : S.Ls b p dx dy = -S.Ls p b dx dy := by unfold St.Ls; grind
  refine ⟨fun z => h1.2.2.1 e1 z, fun z => h1.2.2.2 e1 z, fun z => h2.2.2.1 e2 (by omega), h3.1 (by omega)⟩
theorem St.Ls_comb (S : St) (p u w a : Nat) (K : Int) : S.Ls p a (K * (S.xs u - S.xs p) + (S.xs w - S.xs p)) (K * (S.ys u - S.ys p) + (S.ys w - S.ys p)) = K * S.sd3 p a u + S.sd3 p a w := by
  unfold St.Ls St.sd3 St.sd
  grind
/-- no other neighbour lies in the sector of a triangle at p -/
theorem St.sector {S : St} (hG : S.Geo) {p v c u : Nat} (hp : p < 40) (hin : ¬ S.onB p) (hv : v < 40) (hc : c < 40) (hu : u < 40) (h1 : S.ap (p * 40 + v) = (c : Int)) (h2 : S.E p u) (h3 : S.E u p) (n1 : u ≠ v) (n2 : u ≠ c) : ¬ (0 ≤ S.sd3 p v u ∧ 0 ≤ S.sd3 p u c) := by
  rintro ⟨z1, z2⟩
  obtain ⟨hinB, hdi, hA, hcy, hpo, hcv, hbd, hbn, hal⟩ := id hG
  obtain ⟨sp, sv, sc, g⟩ := hpo p v c hp hv hc h1
  have su := (St.E_has hG.PM hp hu h2).2
  have b1 := hA (p * 40 + u) (by omega)
  have b2 := hA (u * 40 + p) (by omega)
  unfold St.E at h2 h3
  obtain ⟨w, hw⟩ := Int.eq_ofNat_of_zero_le (show 0 ≤ S.ap (p * 40 + u) by omega)
  obtain ⟨w', hw'⟩ := Int.eq_ofNat_of_zero_le (show 0 ≤ S.ap (u * 40 + p) by omega)
  have hw4 : w < 40 := by omega
  have hw4' : w' < 40 := by omega
  obtain ⟨-, -, sw, gw⟩ := hpo p u w hp hu hw4 hw
  obtain ⟨-, -, sw', gw'⟩ := hpo u p w' hu hp hw4' hw'
  have bd := fun (a b c : Nat) (x : a < 40) (y : b < 40) (z : c < 40) => St.sd3_bd hinB x y z
  obtain ⟨lx, ly⟩ := S.lin_id p v u c
  have anuv := S.sd3_an p v u
  have ancu := S.sd3_an p u c
  rcases Int.lt_or_eq_of_le z2 with y2 | y2
  · -- to the left of u
    have pl := S.plu p v c u w
    have ancc := S.sd3_an p u c
    have vw : 0 < 8000001 * S.sd3 p v u + S.sd3 p v w := by
      have := bd p v w hp hv hw4
      rcases Int.lt_or_eq_of_le z1 with y1 | y1
      · omega
      · rw [← y1, Int.zero_mul] at pl
        have e : S.sd3 p c u = -S.sd3 p u c := ancc
        have t1 := Int.mul_pos g gw
        rw [e, Int.mul_neg] at pl
        have := mul_pos_l (a := S.sd3 p u c) (b := S.sd3 p v w) y2 (by rw [Int.mul_comm]; omega)
        omega
    have cw : 0 < 8000001 * S.sd3 p u c + S.sd3 p w c := by
      have := bd p w c hp hw4 hc
      omega
    have l1 := S.Ls_comb p u w u 8000001
    have l2 := S.Ls_comb p u w w 8000001
    have l3 := S.Ls_comb p u w v 8000001
    have l4 := S.Ls_comb p u w c 8000001
    rw [St.sd3_self2] at l1 l2
    have anw := S.sd3_an p u w
    have anc := S.sd3_an p w c
    obtain ⟨X, Y, Z, hg, hi, hs⟩ := St.near_p hG hp hin (dx := 8000001 * (S.xs u - S.xs p) + (S.xs w - S.xs p)) (dy := 8000001 * (S.ys u - S.ys p) + (S.ys w - S.ys p)) (by
      rintro ⟨q1, q2⟩
      rw [q1, q2] at l1
      unfold St.Ls at l1
      rw [Int.mul_zero, Int.mul_zero] at l1
      omega)
    have t1 := hs u w hu hw4 su sw gw
    have t2 := hs v c hv hc sv sc g
    have in1 : S.inT X Y Z p u w := ⟨t1.1 (by omega), t1.2.2.2, t1.2.2.1 (by omega)⟩
    have in2 : S.inT X Y Z p v c := ⟨t2.1 (by omega), t2.2.2.2, t2.2.2.1 (by omega)⟩
    obtain ⟨m1, m2, m3⟩ := St.pos_ne gw
    rcases St.cover1 hA hcy hpo hcv hg hi hp hv hc hp hu hw4 h1 hw in2 in1 with ⟨-, q, -⟩ | ⟨q1, -, q3⟩ | ⟨q1, q2, -⟩
    · exact n1 q
    · obtain ⟨k1, k2, k3⟩ := St.pos_ne g
      exact k1 q1
    · obtain ⟨k1, k2, k3⟩ := St.pos_ne g
      exact k3 q1.symm
  · -- u lies behind or before c: to its right
    have y1 : 0 < S.sd3 p v u := by
      rcases Int.lt_or_eq_of_le z1 with y1 | y1
      · exact y1
      · exfalso
        rw [← y1, ← y2, Int.zero_mul, Int.zero_mul] at lx ly
        have q1 := (Int.mul_eq_zero.mp (show S.sd3 p v c * (S.xs u - S.xs p) = 0 by omega)).resolve_left (by omega)
        have q2 := (Int.mul_eq_zero.mp (show S.sd3 p v c * (S.ys u - S.ys p) = 0 by omega)).resolve_left (by omega)
        have := hdi u p hu hp su sp (by omega) (by omega)
        rw [this, St.sd3_self] at gw
        omega
    have pl := S.plu p v u w' c
    have ew : S.sd3 p w' u = S.sd3 u p w' := (St.sd3_rot S u p w').symm ▸ rfl
    have ew2 : S.sd3 p u w' = -S.sd3 u p w' := by have := St.sd3_swap S u p w'; omega
    have anw := S.sd3_an p u w'
    have wc : 0 < S.sd3 p w' c := by
      have t1 := Int.mul_pos g gw'
      have e : S.sd3 p c u = 0 := by omega
      rw [e, Int.mul_zero, ew2, Int.mul_neg] at pl
      exact mul_pos_l y1 (by omega)
    have vw : 0 < 8000001 * S.sd3 p v u + S.sd3 p v w' := by
      have := bd p v w' hp hv hw4'
      omega
    have l1 := S.Ls_comb p u w' u 8000001
    have l2 := S.Ls_comb p u w' w' 8000001
    have l3 := S.Ls_comb p u w' v 8000001
    have l4 := S.Ls_comb p u w' c 8000001
    rw [St.sd3_self2] at l1 l2
    have anc := S.sd3_an p w' c
    obtain ⟨X, Y, Z, hg, hi, hs⟩ := St.near_p hG hp hin (dx := 8000001 * (S.xs u - S.xs p) + (S.xs w' - S.xs p)) (dy := 8000001 * (S.ys u - S.ys p) + (S.ys w' - S.ys p)) (by
      rintro ⟨q1, q2⟩
      rw [q1, q2] at l1
      unfold St.Ls at l1
      rw [Int.mul_zero, Int.mul_zero] at l1
      omega)
    have gw2 : 0 < S.sd3 p w' u := by omega
    have t1 := hs w' u hw4' hu sw' su gw2
    have t2 := hs v c hv hc sv sc g
    have in1 : S.inT X Y Z u p w' := ⟨t1.2.2.1 (by omega), t1.1 (by omega), t1.2.2.2⟩
    have in2 : S.inT X Y Z p v c := ⟨t2.1 (by omega), t2.2.2.2, t2.2.2.1 (by omega)⟩
    obtain ⟨k1, k2, k3⟩ := St.pos_ne g
    rcases St.cover1 hA hcy hpo hcv hg hi hp hv hc hu hp hw4' h1 hw' in2 in1 with ⟨q1, q2, -⟩ | ⟨q1, q2, -⟩ | ⟨q1, -, -⟩
    · exact k1 q2
    · exact k3 q2.symm
    · exact n2 q1
/-- the ring as it is walked -/
theorem St.ring {S : St} (hG : S.Geo) {p v0 n : Nat} (hp : p < 40) (hin : ¬ S.onB p) (hv0 : v0 < 40) (hE0 : S.E p v0) (hr : S.rnd p v0 n) : 3 ≤ n ∧ n ≤ 39 ∧ (∀ j : Nat, j < n → S.it p v0 j < 40 ∧ S.E p (S.it p v0 j) ∧ S.E (S.it p v0 j) p ∧ S.it p v0 j ≠ p ∧ S.ap (p * 40 + S.it p v0 j) = (S.it p v0 (nx n j) : Int)) ∧ (∀ i j : Nat, i < n → j < n → S.it p v0 i = S.it p v0 j → i = j) ∧ S.P1 p (S.it p v0) n ∧ ∀ v : Nat, v < 40 → S.E p v → ∃ j : Nat, j < n ∧ v = S.it p v0 j := by
  obtain ⟨hinB, hdi, hA, hcy, hpo, hcv, hbd, hbn, hal⟩ := id hG
  have sp := (St.E_has hG.PM hp hv0 hE0).1
  have hback : ∀ u : Nat, u < 40 → S.ap (u * 40 + p) ≠ -1 → S.ap (p * 40 + u) ≠ -1 := by
    intro u hu z z2
    have := hbd u p hu hp z z2
    apply hin
    unfold St.onside at this
    unfold St.onB
    omega
  have hforth : ∀ u : Nat, u < 40 → S.ap (p * 40 + u) ≠ -1 → S.ap (u * 40 + p) ≠ -1 := by
    intro u hu z z2
    have := hbd p u hp hu z z2
    apply hin
    unfold St.onside at this
    unfold St.onB
    omega
  have hall : ∀ i : Nat, S.ap (p * 40 + S.it p v0 i) ≠ -1 ∧ S.it p v0 i < 40 := by
    intro i
    induction i with
    | zero => exact ⟨hE0, hv0⟩
    | succ i ih =>
      obtain ⟨c, hc, k1, k2, k3, k4, -⟩ := St.step hA hcy hpo hp ih.2 ih.1
      have e : S.it p v0 (i + 1) = c := k2
      rw [e]
      exact ⟨hback c hc (by omega), hc⟩
  have hst : ∀ i : Nat, S.ap (p * 40 + S.it p v0 i) = (S.it p v0 (i + 1) : Int) ∧ S.ap (S.it p v0 (i + 1) * 40 + p) = (S.it p v0 i : Int) ∧ S.it p v0 i ≠ p ∧ 0 < S.sd3 p (S.it p v0 i) (S.it p v0 (i + 1)) := by
    intro i
    obtain ⟨c, hc, k1, k2, k3, k4, g1, g2, g3, g4, m1, -⟩ := St.step hA hcy hpo hp (hall i).2 (hall i).1
    have e : S.it p v0 (i + 1) = c := k2
    rw [e]
    exact ⟨k1, k4, fun z => m1 z.symm, g4⟩
  obtain ⟨r1, r2, r3, r4⟩ := hr
  -- none comes twice
  have back : ∀ (i d : Nat), S.it p v0 i = S.it p v0 (i + d) → S.it p v0 0 = S.it p v0 d := by
    intro i
    induction i with
    | zero => intro d h; rw [Nat.zero_add] at h; exact h
    | succ i ih =>
      intro d h
      refine ih d ?_
      have e1 := (hst i).2.1
      have e2 := (hst (i + d)).2.1
      rw [h, show i + 1 + d = i + d + 1 by omega, e2] at e1
      omega
  have inj : ∀ i j : Nat, i < j → j < n → S.it p v0 i ≠ S.it p v0 j := by
    intro i j hij hj z
    have h := back i (j - i) (by rw [show i + (j - i) = j by omega]; exact z)
    have h2 := r3 (j - i - 1) (by omega)
    have h3 := (hst (j - i - 1)).1
    rw [show j - i - 1 + 1 = j - i by omega, ← h] at h3
    exact h2.2 h3
  have n39 : n ≤ 39 := by
    rcases Nat.lt_or_ge n 40 with z | z
    · omega
    · exfalso
      -- forty unlike ones, none of them p
      obtain ⟨i, j, h1, h2, h3⟩ := php 39 (fun i => if S.it p v0 i < p then S.it p v0 i else S.it p v0 i - 1) (fun i hi => by
        have := (hall i).2
        have := (hst i).2.2.1
        show (if S.it p v0 i < p then S.it p v0 i else S.it p v0 i - 1) < 39
        split <;> omega)
      have h3' : (if S.it p v0 i < p then S.it p v0 i else S.it p v0 i - 1) = (if S.it p v0 j < p then S.it p v0 j else S.it p v0 j - 1) := h3
      have m1 := (hst i).2.2.1
      have m2 := (hst j).2.2.1
      apply inj i j h1 (by omega)
      split at h3' <;> split at h3' <;> omega
  have hlast : S.ap (p * 40 + S.it p v0 (n - 1)) = (v0 : Int) := by
    rcases r4 with z | z | z
    · omega
    · exact absurd z (hall _).1
    · exact z
  have hnx : ∀ j : Nat, j < n → S.ap (p * 40 + S.it p v0 j) = (S.it p v0 (nx n j) : Int) := by
    intro j hj
    by_cases c : j + 1 < n
    · rw [nx_lt c]; exact (hst j).1
    · rw [nx_end c, show j = n - 1 by omega]
      exact hlast
  have hturn : ∀ j : Nat, j < n → 0 < S.sd3 p (S.it p v0 j) (S.it p v0 (nx n j)) := by
    intro j hj
    have e1 := (hst j).1
    have e2 := hnx j hj
    have e3 : S.it p v0 (j + 1) = S.it p v0 (nx n j) := by omega
    rw [← e3]
    exact (hst j).2.2.2
  have n3 : 3 ≤ n := by
    rcases Nat.lt_or_ge n 3 with z | z
    · exfalso
      have t0 := hturn 0 (by omega)
      by_cases c : n = 1
      · rw [nx_end (by omega), St.sd3_self2] at t0
        omega
      · have t1 := hturn 1 (by omega)
        rw [nx_lt (by omega), Nat.zero_add] at t0
        rw [nx_end (by omega)] at t1
        have := S.sd3_an p (S.it p v0 0) (S.it p v0 1)
        omega
    · exact z
  have injF : ∀ i j : Nat, i < n → j < n → S.it p v0 i = S.it p v0 j → i = j := by
    intro i j hi hj z
    rcases Nat.lt_trichotomy i j with c | c | c
    · exact absurd z (inj i j c hj)
    · exact c
    · exact absurd z.symm (inj j i c hi)
  refine ⟨n3, n39, fun j hj => ⟨(hall j).2, (hall j).1, hforth _ (hall j).2 (hall j).1, (hst j).2.2.1, hnx j hj⟩, injF, ⟨n3, hturn, fun i j hi hj h1 h2 => ?_⟩, fun v hv hEv => ?_⟩
  · exact St.sector hG hp hin (hall i).2 (hall _).2 (hall j).2 (hnx i hi) (hall j).1 (hforth _ (hall j).2 (hall j).1) (fun z => h1 (injF j i hj hi z)) (fun z => h2 (injF j _ hj (nx_lt_n hi) z))
  · -- whoever is beside p is in the ring
    have b1 := hA (p * 40 + v) (by omega)
    unfold St.E at hEv
    obtain ⟨w, hw⟩ := Int.eq_ofNat_of_zero_le (show 0 ≤ S.ap (p * 40 + v) by omega)
    have hw4 : w < 40 := by omega
    obtain ⟨-, sv, sw, gw⟩ := hpo p v w hp hv hw4 hw
    have l1 := S.Ls_comb p v w v 1
    have l2 := S.Ls_comb p v w w 1
    rw [St.sd3_self2] at l1 l2
    have anw := S.sd3_an p v w
    obtain ⟨X, Y, Z, hg, hi, hs⟩ := St.near_p hG hp hin (dx := 1 * (S.xs v - S.xs p) + (S.xs w - S.xs p)) (dy := 1 * (S.ys v - S.ys p) + (S.ys w - S.ys p)) (by
      rintro ⟨q1, q2⟩
      rw [q1, q2] at l1
      unfold St.Ls at l1
      rw [Int.mul_zero, Int.mul_zero] at l1
      omega)
    have t1 := hs v w hv hw4 sv sw gw
    have in1 : S.inT X Y Z p v w := ⟨t1.1 (by omega), t1.2.2.2, t1.2.2.1 (by omega)⟩
    obtain ⟨i, q1, q2, q3, q4⟩ := St.star_in hA hcy hpo hp hv0 hE0 hback hg
    have su := (St.E_has hG.PM hp q2 q1).2
    have sc := (St.E_has hG.PM hp (hall (i + 1)).2 (hall (i + 1)).1).2
    have t2 := hs (S.it p v0 i) (S.it p v0 (i + 1)) q2 (hall (i + 1)).2 su sc (hst i).2.2.2
    have an := S.Hs_anti (S.it p v0 (i + 1)) p X Y Z
    have in2 : S.inT X Y Z p (S.it p v0 i) (S.it p v0 (i + 1)) := ⟨q3, t2.2.2.2, by omega⟩
    have fin : ∃ j : Nat, v = S.it p v0 j := by
      rcases St.cover1 hA hcy hpo hcv hg hi hp q2 (hall (i + 1)).2 hp hv hw4 (hst i).1 hw in2 in1 with ⟨-, z, -⟩ | ⟨z, -, -⟩ | ⟨z, -, -⟩
      · exact ⟨i, z⟩
      · exact absurd z.symm (hst i).2.2.1
      · exact absurd z.symm (hst (i + 1)).2.2.1
    obtain ⟨j, hj⟩ := fin
    -- by n less each time
    have per : ∀ (m : Nat), ∃ j : Nat, j < n ∧ S.it p v0 m = S.it p v0 j := by
      intro m
      induction m with
      | zero => exact ⟨0, by omega, rfl⟩
      | succ m ih =>
        obtain ⟨j, hj, e⟩ := ih
        refine ⟨nx n j, nx_lt_n hj, ?_⟩
        have e1 := (hst m).1
        rw [e, hnx j hj] at e1
        omega
    obtain ⟨k, hk, e⟩ := per j
    exact ⟨k, hk, hj.trans e⟩
