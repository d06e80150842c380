/-! LEAST COLOURS: there is one such colouring, and no colour is beyond 14 (each pair of colours up to the greatest has an edge of its own). By hand. -/
theorem colOk_uniq {S : St} (hN : ∀ p q : Nat, p < 40 → q < 40 → S.nr p q → S.has q) {c1 c2 : Nat → Int} (h1 : colOk S c1 40) (h2 : colOk S c2 40) : ∀ p : Nat, p < 40 → S.has p → c1 p = c2 p := by
  intro p
  induction p using Nat.strongRecOn with
  | ind p ih =>
    intro hp sp
    obtain ⟨a1, a2, a3, a4⟩ := h1 p hp sp
    obtain ⟨b1, b2, b3, b4⟩ := h2 p hp sp
    have e : ∀ q : Nat, q < p → S.nr p q → c1 q = c2 q := fun q hq hn => ih q hq (by omega) (hN p q hp (by omega) hn)
    rcases Int.lt_trichotomy (c1 p) (c2 p) with c | c | c
    · obtain ⟨q, q1, q2, q3⟩ := b4 (c1 p).toNat (by omega)
      have := a3 q q1 q2
      rw [e q q1 q2] at this
      omega
    · exact c
    · obtain ⟨q, q1, q2, q3⟩ := a4 (c2 p).toNat (by omega)
      have := b3 q q1 q2
      rw [← e q q1 q2] at this
      omega
theorem St.Ok.nr_sym {S : St} (h : S.Ok) {u v : Nat} (hu : u < 40) (hv : v < 40) (hn : S.nr u v) : S.nr v u :=
  (St.near_E h.M.1.PM h.2.1 hv hu).mpr ((St.near_E h.M.1.PM h.2.1 hu hv).mp hn).symm
theorem St.Ok.nr_row {S : St} (h : S.Ok) {E : Nat} (hE : S.ec = (E : Int)) {u v : Nat} (hu : u < 40) (hv : v < 40) (huv : u < v) (hn : S.nr u v) : ∃ t : Nat, t < E ∧ S.e1 t = u ∧ S.e2 t = v :=
  St.row_E h.2.1 hE hv hu huv (h.nr v u hv hu (h.nr_sym hu hv hn)) ((St.near_E h.M.1.PM h.2.1 hu hv).mp hn)
theorem col_14 {S : St} (h : S.Ok) {E : Nat} (hE : S.ec = (E : Int)) (hE2 : E ≤ 113) {cl : Nat → Int} (hc : colOk S cl 40) {p : Nat} (hp : p < 40) (sp : S.has p) : cl p ≤ 14 := by
  apply Classical.byContradiction
  intro hn
  -- one of colour 15
  have hv : ∃ v : Nat, v < 40 ∧ S.has v ∧ cl v = 15 := by
    by_cases e : cl p = 15
    · exact ⟨p, hp, sp, e⟩
    · obtain ⟨q, q1, q2, q3⟩ := (hc p hp sp).2.2.2 15 (by omega)
      exact ⟨q, by omega, h.nr p q hp (by omega) q2, q3⟩
  obtain ⟨v, v1, v2, v3⟩ := hv
  -- one of each colour
  have hone : ∀ a : Nat, a ≤ 15 → ∃ u : Nat, u < 40 ∧ S.has u ∧ cl u = (a : Int) := by
    intro a ha
    by_cases e : a = 15
    · exact ⟨v, v1, v2, by omega⟩
    · obtain ⟨q, q1, q2, q3⟩ := (hc v v1 v2).2.2.2 a (by omega)
      exact ⟨q, by omega, h.nr v q v1 (by omega) q2, q3⟩
  -- two neighbours of any two colours
  have htwo : ∀ a b : Nat, a ≤ 15 → b ≤ 15 → a ≠ b → ∃ u w : Nat, u < 40 ∧ w < 40 ∧ S.nr u w ∧ cl u = (a : Int) ∧ cl w = (b : Int) := by
    intro a b ha hb hab
    rcases Nat.lt_or_ge b a with c | c
    · obtain ⟨u, u1, u2, u3⟩ := hone a ha
      obtain ⟨q, q1, q2, q3⟩ := (hc u u1 u2).2.2.2 b (by omega)
      exact ⟨u, q, u1, by omega, q2, u3, q3⟩
    · obtain ⟨u, u1, u2, u3⟩ := hone b hb
      obtain ⟨q, q1, q2, q3⟩ := (hc u u1 u2).2.2.2 a (by omega)
      exact ⟨q, u, by omega, u1, h.nr_sym u1 (by omega) q2, q3, u3⟩
  -- the row of an edge, and which way
  have hrow : ∀ k : Nat, ∃ j : Nat, k < 240 → j < 226 ∧ ∃ u w : Nat, cl u = ((k / 15 : Nat) : Int) ∧ cl w = ((if k % 15 < k / 15 then k % 15 else k % 15 + 1 : Nat) : Int) ∧ ((j % 2 = 0 ∧ S.e1 (j / 2) = u ∧ S.e2 (j / 2) = w) ∨ (j % 2 = 1 ∧ S.e1 (j / 2) = w ∧ S.e2 (j / 2) = u)) := by
    intro k
    by_cases hk : k < 240
    · obtain ⟨u, w, u1, w1, hn, e1, e2⟩ := htwo (k / 15) (if k % 15 < k / 15 then k % 15 else k % 15 + 1) (by omega) (by split <;> omega) (by split <;> omega)
      rcases Nat.lt_trichotomy u w with c | c | c
      · obtain ⟨t, t1, t2, t3⟩ := h.nr_row hE u1 w1 c hn
        exact ⟨2 * t, fun _ => ⟨by omega, u, w, e1, e2, Or.inl ⟨by omega, by rw [show 2 * t / 2 = t by omega]; exact t2, by rw [show 2 * t / 2 = t by omega]; exact t3⟩⟩⟩
      · subst c
        exfalso
        rw [e1] at e2
        split at e2 <;> omega
      · obtain ⟨t, t1, t2, t3⟩ := h.nr_row hE w1 u1 c (h.nr_sym u1 w1 hn)
        exact ⟨2 * t + 1, fun _ => ⟨by omega, u, w, e1, e2, Or.inr ⟨by omega, by rw [show (2 * t + 1) / 2 = t by omega]; exact t2, by rw [show (2 * t + 1) / 2 = t by omega]; exact t3⟩⟩⟩
    · exact ⟨0, fun z => absurd z hk⟩
  obtain ⟨f, hf⟩ := Classical.axiomOfChoice hrow
  obtain ⟨i, j, h1, h2, h3⟩ := php 226 f (fun i hi => (hf i (by omega)).1)
  obtain ⟨-, u, w, a1, a2, a3⟩ := hf i (by omega)
  obtain ⟨-, u', w', b1, b2, b3⟩ := hf j (by omega)
  rw [h3] at a3
  have euw : u = u' ∧ w = w' := by
    rcases a3 with ⟨x1, x2, x3⟩ | ⟨x1, x2, x3⟩
    · rcases b3 with ⟨y1, y2, y3⟩ | ⟨y1, y2, y3⟩
      · exact ⟨x2.symm.trans y2, x3.symm.trans y3⟩
      · omega
    · rcases b3 with ⟨y1, y2, y3⟩ | ⟨y1, y2, y3⟩
      · omega
      · exact ⟨x3.symm.trans y3, x2.symm.trans y2⟩
  rw [← euw.1, a1] at b1
  rw [← euw.2, a2] at b2
  have e1 : i / 15 = j / 15 := by omega
  rw [e1] at b2
  have e2 : i % 15 = j % 15 := by
    split at b2 <;> split at b2 <;> omega
  omega
