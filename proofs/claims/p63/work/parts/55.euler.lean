/-! HOW MANY triangles and edges there are. By hand. -/
theorem sumR_split (f : Nat → Int) (m : Nat) : ∀ (k : Nat), sumR (m + k) f = sumR m f + sumR k (fun j => f (m + j)) := by
  intro k
  induction k with
  | zero => show sumR m f = sumR m f + 0; omega
  | succ k ih =>
    show sumR (m + k) f + f (m + k) = sumR m f + (sumR k (fun j => f (m + j)) + f (m + k))
    rw [ih]
    omega
theorem sumR_grid (h : Nat → Nat → Int) : ∀ (n : Nat), sumR (n * 40) (fun e => h (e / 40) (e % 40)) = sumR n (fun x => sumR 40 (fun y => h x y)) := by
  intro n
  induction n with
  | zero => rw [Nat.zero_mul]; rfl
  | succ n ih =>
    rw [show (n + 1) * 40 = n * 40 + 40 by omega, sumR_split, ih]
    show _ = sumR n (fun x => sumR 40 (fun y => h x y)) + sumR 40 (fun y => h n y)
    have : sumR 40 (fun j => h ((n * 40 + j) / 40) ((n * 40 + j) % 40)) = sumR 40 (fun y => h n y) := by
      apply sumR_congr
      intro j hj
      rw [show (n * 40 + j) / 40 = n by omega, show (n * 40 + j) % 40 = j by omega]
    rw [this]
theorem sumR_turn (h : Nat → Nat → Int) : sumR 1600 (fun e => h (e / 40) (e % 40)) = sumR 1600 (fun e => h (e % 40) (e / 40)) := by
  have e1 := sumR_grid h 40
  have e2 := sumR_grid (fun x y => h y x) 40
  have e3 : sumR (40 * 40) (fun e => h (e / 40) (e % 40)) = sumR (40 * 40) (fun e => h (e % 40) (e / 40)) := by
    rw [e1, sumR_swap]
    exact e2.symm
  exact e3
/-- each triangle is told from one of its edges as the rows have it -/
theorem St.tl_sum {S : St} (hA : S.okA) (hcy : S.cyc) (hp : S.pos) : 3 * ((S.tl 1600).length : Int) = S.SgT (fun _ _ _ => 1) := by
  have e0 : ((S.tl 1600).length : Int) = sumR 1600 (fun e => if S.ap e = -1 then 0 else (fun e : Nat => if e / 40 < e % 40 ∧ e / 40 < (S.ap e).toNat then (1 : Int) else 0) e) := by
    unfold St.tl
    rw [← sumR_count]
    apply sumR_congr
    intro e he
    by_cases c0 : S.ap e = -1
    · rw [if_pos c0, if_neg]
      intro z
      have z2 : S.isTri e := @of_decide_eq_true _ (Classical.propDecidable _) z
      have := z2.2.2
      omega
    · rw [if_neg c0]
      obtain ⟨a, b, c, ha, hb, hc, e1, e2, e3, k1, k2, k3, g1, g2, g3, g4, n1, n2, n3⟩ := St.edge hA hcy hp he c0
      have hap : S.ap e = (c : Int) := by rw [e1]; exact k1
      by_cases c1 : e / 40 < e % 40 ∧ e / 40 < (S.ap e).toNat
      · rw [if_pos (show @decide (S.isTri e) (Classical.propDecidable _) = true from @decide_eq_true _ (Classical.propDecidable _) ⟨c1.1, by rw [e2]; exact g1, by omega⟩)]
        exact (if_pos c1).symm
      · rw [if_neg (show ¬ @decide (S.isTri e) (Classical.propDecidable _) = true from fun z => by
          have z2 : S.isTri e := @of_decide_eq_true _ (Classical.propDecidable _) z
          have := z2.1
          have := z2.2.2
          exact c1 ⟨by omega, by omega⟩)]
        exact (if_neg c1).symm
  have r1 := St.rot_sum hA hcy (fun e : Nat => if e / 40 < e % 40 ∧ e / 40 < (S.ap e).toNat then (1 : Int) else 0)
  have r2 := St.rot_sum hA hcy (fun e : Nat => (fun e : Nat => if e / 40 < e % 40 ∧ e / 40 < (S.ap e).toNat then (1 : Int) else 0) (S.rot e))
  have key : S.SgT (fun _ _ _ => 1) = sumR 1600 (fun e => if S.ap e = -1 then 0 else (fun e : Nat => if e / 40 < e % 40 ∧ e / 40 < (S.ap e).toNat then (1 : Int) else 0) e) + sumR 1600 (fun e => if S.ap e = -1 then 0 else (fun e : Nat => (fun e : Nat => if e / 40 < e % 40 ∧ e / 40 < (S.ap e).toNat then (1 : Int) else 0) (S.rot e)) e) + sumR 1600 (fun e => if S.ap e = -1 then 0 else (fun e : Nat => (fun e : Nat => if e / 40 < e % 40 ∧ e / 40 < (S.ap e).toNat then (1 : Int) else 0) (S.rot e)) (S.rot e)) := by
    rw [← sumR_add, ← sumR_add]
    apply sumR_congr
    intro e he
    by_cases c0 : S.ap e = -1
    · simp only [c0, if_true]; rfl
    · simp only [c0, if_false]
      obtain ⟨a, b, c, ha, hb, hc, e1, e2, e3, k1, k2, k3, g1, g2, g3, g4, n1, n2, n3⟩ := St.edge hA hcy hp he c0
      have q0 : S.ap e = (c : Int) := by rw [e1]; exact k1
      have q1 : S.rot e = b * 40 + c := by unfold St.rot; rw [e3, q0]; rfl
      have q2 : S.rot (S.rot e) = c * 40 + a := by
        rw [q1]
        unfold St.rot
        rw [k2]
        omega
      rw [q2, q1, k2, k3, q0, e2, e3, show (b * 40 + c) / 40 = b by omega, show (b * 40 + c) % 40 = c by omega, show (c * 40 + a) / 40 = c by omega, show (c * 40 + a) % 40 = a by omega, Int.toNat_natCast, Int.toNat_natCast, Int.toNat_natCast]
      (repeat' split) <;> omega
  have r1' := r1
  simp only at r1' r2 key e0 ⊢
  rw [key]
  omega
/-- each edge, told from its lesser end, is one or two directed ones -/
theorem St.el_sum {S : St} (h : S.PM) : 2 * ((S.el 1600).length : Int) = S.SgT (fun _ _ _ => 1) + S.Bd := by
  have e0 : ((S.el 1600).length : Int) = sumR 1600 (fun e => (fun x y : Nat => if x < y ∧ (S.E x y ∨ S.E y x) then (1 : Int) else 0) (e / 40) (e % 40)) := by
    unfold St.el
    rw [← sumR_count]
    apply sumR_congr
    intro e he
    have ee : e / 40 * 40 + e % 40 = e := by omega
    by_cases c1 : e / 40 < e % 40 ∧ (S.E (e / 40) (e % 40) ∨ S.E (e % 40) (e / 40))
    · have hs : S.has (e / 40) := c1.2.elim (fun z => (St.E_has h (by omega) (by omega) z).1) (fun z => (St.E_has h (by omega) (by omega) z).2)
      have c2 := c1.2
      unfold St.E at c2
      rw [ee] at c2
      rw [if_pos (show @decide (S.isEdg e) (Classical.propDecidable _) = true from @decide_eq_true _ (Classical.propDecidable _) ⟨c1.1, hs, c2⟩)]
      exact (if_pos c1).symm
    · rw [if_neg (show ¬ @decide (S.isEdg e) (Classical.propDecidable _) = true from fun z => by
        have z2 : S.isEdg e := @of_decide_eq_true _ (Classical.propDecidable _) z
        apply c1
        refine ⟨z2.1, ?_⟩
        unfold St.E
        rw [ee]
        exact z2.2.2)]
      exact (if_neg c1).symm
  have e1 : S.SgT (fun _ _ _ => 1) = sumR 1600 (fun e => (fun x y : Nat => if S.E x y then (1 : Int) else 0) (e / 40) (e % 40)) := by
    apply sumR_congr
    intro e he
    have ee : e / 40 * 40 + e % 40 = e := by omega
    show (if S.ap e = -1 then (0 : Int) else 1) = if S.ap (e / 40 * 40 + e % 40) ≠ -1 then 1 else 0
    rw [ee]
    by_cases c : S.ap e = -1
    · rw [if_pos c, if_neg (fun z => z c)]
    · rw [if_neg c, if_pos c]
  have e2 := St.Bd_E S
  have t0 : sumR 1600 (fun e => (fun x y : Nat => if x < y ∧ (S.E x y ∨ S.E y x) then (1 : Int) else 0) (e / 40) (e % 40)) = sumR 1600 (fun e => (fun x y : Nat => if x < y ∧ (S.E x y ∨ S.E y x) then (1 : Int) else 0) (e % 40) (e / 40)) := sumR_turn (fun x y : Nat => if x < y ∧ (S.E x y ∨ S.E y x) then (1 : Int) else 0)
  have key : sumR 1600 (fun e => (fun x y : Nat => if S.E x y then (1 : Int) else 0) (e / 40) (e % 40)) + sumR 1600 (fun e => if S.E (e / 40) (e % 40) ∧ ¬ S.E (e % 40) (e / 40) then (1 : Int) else 0) = sumR 1600 (fun e => (fun x y : Nat => if x < y ∧ (S.E x y ∨ S.E y x) then (1 : Int) else 0) (e / 40) (e % 40)) + sumR 1600 (fun e => (fun x y : Nat => if x < y ∧ (S.E x y ∨ S.E y x) then (1 : Int) else 0) (e % 40) (e / 40)) + (sumR 1600 (fun e => (fun x y : Nat => if x < y ∧ S.E x y ∧ ¬ S.E y x then (1 : Int) else 0) (e / 40) (e % 40)) - sumR 1600 (fun e => (fun x y : Nat => if x < y ∧ S.E x y ∧ ¬ S.E y x then (1 : Int) else 0) (e % 40) (e / 40))) + (sumR 1600 (fun e => (fun x y : Nat => if x < y ∧ S.E y x ∧ ¬ S.E x y then (1 : Int) else 0) (e % 40) (e / 40)) - sumR 1600 (fun e => (fun x y : Nat => if x < y ∧ S.E y x ∧ ¬ S.E x y then (1 : Int) else 0) (e / 40) (e % 40))) := by
    have neg : ∀ f : Nat → Int, -sumR 1600 f = sumR 1600 (fun k => -f k) := fun f => (sumR_neg f 1600).symm
    rw [Int.sub_eq_add_neg, Int.sub_eq_add_neg, neg, neg, ← sumR_add, ← sumR_add, ← sumR_add, ← sumR_add, ← sumR_add, ← sumR_add]
    apply sumR_congr
    intro e he
    show (if S.E (e / 40) (e % 40) then (1 : Int) else 0) + (if S.E (e / 40) (e % 40) ∧ ¬ S.E (e % 40) (e / 40) then 1 else 0) = _
    generalize e / 40 = x at *
    by_cases c : x = e % 40
    · rw [← c]
      have hno : ¬ S.E x x := by
        intro z
        have b1 := h.1 (x * 40 + x) (by omega)
        unfold St.E at z
        obtain ⟨w, hw⟩ := Int.eq_ofNat_of_zero_le (show 0 ≤ S.ap (x * 40 + x) by omega)
        obtain ⟨-, -, -, g⟩ := h.2.2 x x w (by omega) (by omega) (by omega) hw
        rw [St.sd3_self] at g
        omega
      simp [hno]
    · generalize e % 40 = y at *
      rcases Nat.lt_or_gt_of_ne c with l | l
      · have l2 : ¬ y < x := by omega
        by_cases p1 : S.E x y <;> by_cases p2 : S.E y x <;> simp [p1, p2, l, l2]
      · have l2 : ¬ x < y := by omega
        by_cases p1 : S.E x y <;> by_cases p2 : S.E y x <;> simp [p1, p2, l, l2]
  have t1 : sumR 1600 (fun e => (fun x y : Nat => if x < y ∧ S.E x y ∧ ¬ S.E y x then (1 : Int) else 0) (e / 40) (e % 40)) = sumR 1600 (fun e => (fun x y : Nat => if x < y ∧ S.E x y ∧ ¬ S.E y x then (1 : Int) else 0) (e % 40) (e / 40)) := sumR_turn (fun x y : Nat => if x < y ∧ S.E x y ∧ ¬ S.E y x then (1 : Int) else 0)
  have t2 : sumR 1600 (fun e => (fun x y : Nat => if x < y ∧ S.E y x ∧ ¬ S.E x y then (1 : Int) else 0) (e / 40) (e % 40)) = sumR 1600 (fun e => (fun x y : Nat => if x < y ∧ S.E y x ∧ ¬ S.E x y then (1 : Int) else 0) (e % 40) (e / 40)) := sumR_turn (fun x y : Nat => if x < y ∧ S.E y x ∧ ¬ S.E x y then (1 : Int) else 0)
  rw [e0, e1, e2]
  omega
/-- the four corners of the square -/
def St.Cor (S : St) : Prop := (S.has 0 ∧ S.has 1 ∧ S.has 2 ∧ S.has 3) ∧ (S.xs 0 = -1000 ∧ S.ys 0 = -1000) ∧ (S.xs 1 = 1000 ∧ S.ys 1 = -1000) ∧ (S.xs 2 = 1000 ∧ S.ys 2 = 1000) ∧ (S.xs 3 = -1000 ∧ S.ys 3 = 1000)
theorem St.Bd_ge {S : St} (hG : S.Geo) (hc : S.Cor) : 4 ≤ S.Bd := by
  obtain ⟨hinB, hdi, hA, hcy, hp, hv, hbd, hbn, hal⟩ := hG
  obtain ⟨⟨s0, s1, s2, s3⟩, ⟨x0, y0⟩, ⟨x1, y1⟩, ⟨x2, y2⟩, x3, y3⟩ := hc
  obtain ⟨v0, a0, b0, c0⟩ := hbn 0 (by decide) s0 (by unfold St.onB; omega)
  obtain ⟨v1, a1, b1, c1⟩ := hbn 1 (by decide) s1 (by unfold St.onB; omega)
  obtain ⟨v2, a2, b2, c2⟩ := hbn 2 (by decide) s2 (by unfold St.onB; omega)
  obtain ⟨v3, a3, b3, c3⟩ := hbn 3 (by decide) s3 (by unfold St.onB; omega)
  have h := sumR_part (f := fun e => if S.ap e ≠ -1 ∧ S.ap (e % 40 * 40 + e / 40) = -1 then (1 : Int) else 0) (n := 1600) (fun k _ => by show 0 ≤ (if _ then (1 : Int) else 0); split <;> decide) [0 * 40 + v0, 1 * 40 + v1, 2 * 40 + v2, 3 * 40 + v3] (by
    simp only [List.nodup_cons, List.mem_cons, List.not_mem_nil, or_false, not_or, not_false_eq_true, List.nodup_nil, and_true]
    exact ⟨⟨by omega, by omega, by omega⟩, ⟨by omega, by omega⟩, by omega⟩) (by
    intro k hk
    simp only [List.mem_cons, List.not_mem_nil, or_false] at hk
    omega)
  have one : ∀ q v : Nat, q < 40 → v < 40 → S.ap (q * 40 + v) ≠ -1 → S.ap (v * 40 + q) = -1 → (if S.ap (q * 40 + v) ≠ -1 ∧ S.ap ((q * 40 + v) % 40 * 40 + (q * 40 + v) / 40) = -1 then (1 : Int) else 0) = 1 := by
    intro q v hq hv2 k1 k2
    rw [if_pos]
    rw [show (q * 40 + v) % 40 = v by omega, show (q * 40 + v) / 40 = q by omega]
    exact ⟨k1, k2⟩
  simp only [List.map_cons, List.map_nil, List.sum_cons, List.sum_nil] at h
  rw [one 0 v0 (by decide) a0 b0 c0, one 1 v1 (by decide) a1 b1 c1, one 2 v2 (by decide) a2 b2 c2, one 3 v3 (by decide) a3 b3 c3] at h
  show 4 ≤ sumR 1600 (fun e => if S.ap e ≠ -1 ∧ S.ap (e % 40 * 40 + e / 40) = -1 then (1 : Int) else 0)
  omega
theorem St.nV_le (S : St) : S.nV ≤ 40 := by
  have h : S.nV ≤ sumR 40 (fun _ => 1) := sumR_le (fun p _ => by
    show (if S.has p then (1 : Int) else 0) ≤ 1
    split <;> decide)
  have h2 : sumR 40 (fun _ => (1 : Int)) = 40 := rfl
  omega
/-- how many triangles and edges there are -/
theorem St.counts {S : St} (hM : S.Msh) : ((S.tl 1600).length : Int) = 2 * S.nV - S.Bd - 2 ∧ ((S.el 1600).length : Int) = 3 * S.nV - S.Bd - 3 := by
  have h1 := St.tl_sum hM.1.2.2.1 hM.1.2.2.2.1 hM.1.2.2.2.2.1
  have h2 := St.el_sum hM.1.PM
  have h3 := hM.2.2.1
  omega
theorem St.Msh_okL {S : St} (hM : S.Msh) (hc : S.Cor) : S.okL := by
  obtain ⟨h1, h2⟩ := St.counts hM
  have h3 := S.nV_le
  have h4 := St.Bd_ge hM.1 hc
  exact ⟨hM.1.2.2.1, hM.1.2.2.2.1, by omega, by omega⟩
