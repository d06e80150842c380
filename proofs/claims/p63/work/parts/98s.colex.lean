/-! LEAST COLOURS: there is such a colouring; the law's own, point by point, is that one. By hand. -/
theorem least_ex {P : Nat → Prop} : ∀ n : Nat, P n → ∃ c : Nat, c ≤ n ∧ P c ∧ ∀ k : Nat, k < c → ¬ P k := by
  intro n
  induction n using Nat.strongRecOn with
  | ind n ih =>
    intro h
    by_cases c : ∃ k : Nat, k < n ∧ P k
    · obtain ⟨k, hk, hp⟩ := c
      obtain ⟨c, c1, c2, c3⟩ := ih k hk hp
      exact ⟨c, by omega, c2, c3⟩
    · exact ⟨n, Nat.le_refl _, h, fun k hk hp => c ⟨k, hk, hp⟩⟩
theorem col_ex (S : St) : ∀ n : Nat, n ≤ 40 → ∃ cl : Nat → Int, colOk S cl n
  | 0, _ => ⟨fun _ => 0, fun q hq => absurd hq (Nat.not_lt_zero _)⟩
  | n + 1, hn => by
    obtain ⟨cl, h⟩ := col_ex S n (by omega)
    by_cases sp : S.has n
    · have hfree : ∃ c : Nat, c ≤ 39 ∧ ¬ ∃ q : Nat, q < n ∧ S.nr n q ∧ cl q = (c : Int) := by
        apply Classical.byContradiction
        intro hno
        have hq : ∀ i : Nat, ∃ q : Nat, i ≤ 39 → q < n ∧ S.nr n q ∧ cl q = (i : Int) := fun i => by
          by_cases hi : i ≤ 39
          · apply Classical.byContradiction
            intro h2
            refine hno ⟨i, hi, fun ⟨q, hq⟩ => h2 ⟨q, fun _ => hq⟩⟩
          · exact ⟨0, fun z => absurd z hi⟩
        obtain ⟨f, hf⟩ := Classical.axiomOfChoice hq
        obtain ⟨i, j, h1, h2, h3⟩ := php 39 f (fun i hi => by have := (hf i hi).1; omega)
        have a := (hf i (by omega)).2.2
        have b9 := (hf j h2).2.2
        rw [h3] at a
        omega
      obtain ⟨c0, c1, c2⟩ := hfree
      obtain ⟨c, d1, d2, d3⟩ := least_ex (P := fun c => ¬ ∃ q : Nat, q < n ∧ S.nr n q ∧ cl q = (c : Int)) c0 c2
      exact ⟨_, colOk_put h (by omega) (fun q hq hn9 e => d2 ⟨q, hq, hn9, e⟩) (fun c9 h9 => Classical.byContradiction (fun z => d3 c9 h9 z))⟩
    · exact ⟨cl, colOk_no h sp⟩
/-- the colours taken ahead of p by the law's own row leave the one colour -/
theorem col_next {S : St} (h : S.Ok) {E : Nat} (hE : S.ec = (E : Int)) (hE2 : E ≤ 113) {c0 cl : Nat → Int} (h0 : colOk S c0 40) {p : Nat} (hp : p < 40) (sp : S.has p) (he : ∀ q : Nat, q < p → S.has q → cl q = c0 q) {u : Nat} (hu : ∀ c : Nat, c < 15 → (u.testBit c = true ↔ ∃ q : Nat, q < p ∧ S.nr p q ∧ cl q = (c : Int))) : ∃ c : Nat, c0 p = (c : Int) ∧ c < 15 ∧ u.testBit c = false ∧ ∀ k : Nat, k < c → u.testBit k = true := by
  obtain ⟨a1, a2, a3, a4⟩ := h0 p hp sp
  have h14 := col_14 h hE hE2 h0 hp sp
  refine ⟨(c0 p).toNat, by omega, by omega, ?_, fun k hk => ?_⟩
  · rcases hb : u.testBit (c0 p).toNat with _ | _
    · rfl
    · obtain ⟨q, q1, q2, q3⟩ := (hu _ (by omega)).mp hb
      rw [he q q1 (h.nr p q hp (by omega) q2)] at q3
      exact absurd (by omega) (a3 q q1 q2)
  · obtain ⟨q, q1, q2, q3⟩ := a4 k (by omega)
    exact (hu k (by omega)).mpr ⟨q, q1, q2, by rw [he q q1 (h.nr p q hp (by omega) q2)]; exact q3⟩
/-- the number whose lowest c bits are set and whose next is clear -/
theorem low_bits {u c : Nat} (h1 : u.testBit c = false) (h2 : ∀ k : Nat, k < c → u.testBit k = true) : ∃ m : Nat, u = 2 ^ (c + 1) * m + (2 ^ c - 1) := by
  have hm : u % 2 ^ (c + 1) = 2 ^ c - 1 := by
    apply Nat.eq_of_testBit_eq
    intro i
    rw [Nat.testBit_mod_two_pow, Nat.testBit_two_pow_sub_one]
    rcases Nat.lt_trichotomy i c with z | z | z
    · simp [h2 i z, z, show i < c + 1 by omega]
    · subst z; simp [h1]
    · simp [show ¬ i < c by omega, show ¬ i < c + 1 by omega]
  refine ⟨u / 2 ^ (c + 1), ?_⟩
  have := Nat.div_add_mod u (2 ^ (c + 1))
  omega
