/-! THE LAW'S TABLE OF SIDES is what the object says of its triangles. By hand. -/
theorem St.sd3_ne {S : St} {a b c : Nat} (h : 0 < S.sd3 a b c) : a ≠ b ∧ b ≠ c ∧ c ≠ a := by
  refine ⟨fun e => ?_, fun e => ?_, fun e => ?_⟩
  all_goals
    subst e
    unfold St.sd3 St.sd at h
    grind
theorem St.acr_sid (S : St) (t k : Nat) : S.acr t k = S.sid (S.cn t ((k + 1) % 3)) (S.cn t k) - 1 := by
  unfold St.acr St.sid
  split <;> omega
/-- each side of a triangle: ow names the triangle -/
theorem St.Ok.ow_at {S : St} (h : S.Ok) {T : Nat} (hT : S.tn = (T : Int)) {x y c : Nat} (hx : x < 40) (hy : y < 40) (hc : c < 40) (he : S.ap (x * 40 + y) = (c : Int)) : ∃ t : Nat, t < T ∧ S.ow (x * 40 + y) = (t : Int) := by
  obtain ⟨hA, hcy, hp⟩ := h.M.1.PM
  obtain ⟨h2, h3⟩ := hcy x y c hx hy hc he
  obtain ⟨sx, sy, sc, hpos⟩ := hp x y c hx hy hc he
  obtain ⟨n1, n2, n3⟩ := St.sd3_ne hpos
  have hl := h.2.2.1
  have hrow := hl.1.2.2
  by_cases m1 : x < y ∧ x < c
  · obtain ⟨t, t1, t2⟩ := St.tri_idx hT hl hx hy sx m1.1 m1.2 he
    exact ⟨t, t1, (hrow t _ t2).1⟩
  · by_cases m2 : y < c ∧ y < x
    · obtain ⟨t, t1, t2⟩ := St.tri_idx hT hl hy hc sy m2.1 m2.2 h2
      refine ⟨t, t1, ?_⟩
      have := (hrow t _ t2).2.2
      rw [h2, show (y * 40 + c) / 40 = y by omega, Int.toNat_natCast] at this
      exact this
    · obtain ⟨t, t1, t2⟩ := St.tri_idx hT hl hc hx sc (show c < x by omega) (show c < y by omega) h3
      refine ⟨t, t1, ?_⟩
      have := (hrow t _ t2).2.1
      rw [h3, show (c * 40 + x) % 40 = x by omega, Int.toNat_natCast] at this
      exact this
theorem St.Ok.sid_b {S : St} (h : S.Ok) {T : Nat} (hT : S.tn = (T : Int)) {x y : Nat} (hx : x < 40) (hy : y < 40) : 0 ≤ S.sid x y ∧ S.sid x y ≤ (T : Int) := by
  unfold St.sid
  split
  · omega
  · rename_i hn
    have a1 := h.M.1.PM.1 (x * 40 + y) (by omega)
    obtain ⟨c, hc⟩ := Int.eq_ofNat_of_zero_le (show 0 ≤ S.ap (x * 40 + y) by omega)
    obtain ⟨t, t1, t2⟩ := h.ow_at hT hx hy (show c < 40 by omega) hc
    omega
/-- a pair has a side in the table just when the two are neighbours -/
theorem St.Ok.sid_nr {S : St} (h : S.Ok) {x y : Nat} (hx : x < 40) (hy : y < 40) : 0 < S.sid x y + S.sid y x ↔ S.nr x y := by
  obtain ⟨T, hT⟩ : ∃ T : Nat, S.tn = (T : Int) := ⟨_, h.2.2.1.1.1⟩
  have b1 := h.sid_b hT hx hy
  have b2 := h.sid_b hT hy hx
  refine Iff.trans ?_ (St.near_E h.M.1.PM h.2.1 hx hy).symm
  have key : ∀ {x y : Nat}, x < 40 → y < 40 → (0 < S.sid x y ↔ S.ap (x * 40 + y) ≠ -1) := by
    intro x y hx hy
    unfold St.sid
    constructor
    · intro g e
      rw [if_pos e] at g
      omega
    · intro g
      rw [if_neg g]
      have a1 := h.M.1.PM.1 (x * 40 + y) (by omega)
      obtain ⟨c, hc⟩ := Int.eq_ofNat_of_zero_le (show 0 ≤ S.ap (x * 40 + y) by omega)
      obtain ⟨t, t1, t2⟩ := h.ow_at hT hx hy (show c < 40 by omega) hc
      omega
  have k1 := key hx hy
  have k2 := key hy hx
  show _ ↔ S.ap (x * 40 + y) ≠ -1 ∨ S.ap (y * 40 + x) ≠ -1
  rw [← k1, ← k2]
  omega
