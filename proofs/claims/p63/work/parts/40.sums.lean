/-! SUMS over codes. By hand. -/
def sumR : Nat → (Nat → Int) → Int
  | 0, _ => 0
  | n + 1, f => sumR n f + f n
theorem sumR_congr {f g : Nat → Int} : ∀ {n : Nat}, (∀ k : Nat, k < n → f k = g k) → sumR n f = sumR n g := by
  intro n
  induction n with
  | zero => intro _; rfl
  | succ n ih =>
    intro hz
    show sumR n f + f n = sumR n g + g n
    rw [ih (fun k hk => hz k (by omega)), hz n (by omega)]
theorem sumR_add (f g : Nat → Int) : ∀ (n : Nat), sumR n (fun k => f k + g k) = sumR n f + sumR n g := by
  intro n
  induction n with
  | zero => rfl
  | succ n ih =>
    show sumR n (fun k => f k + g k) + (f n + g n) = sumR n f + f n + (sumR n g + g n)
    rw [ih]
    omega
theorem sumR_zero : ∀ (n : Nat), sumR n (fun _ => 0) = 0 := by
  intro n
  induction n with
  | zero => rfl
  | succ n ih =>
    show sumR n (fun _ => 0) + 0 = 0
    rw [ih]
    rfl
theorem sumR_neg (f : Nat → Int) : ∀ (n : Nat), sumR n (fun k => -f k) = -sumR n f := by
  intro n
  induction n with
  | zero => rfl
  | succ n ih =>
    show sumR n (fun k => -f k) + -f n = -(sumR n f + f n)
    rw [ih]
    omega
theorem sumR_mul (c : Int) (f : Nat → Int) : ∀ (n : Nat), sumR n (fun k => c * f k) = c * sumR n f := by
  intro n
  induction n with
  | zero => show (0 : Int) = c * 0; rw [Int.mul_zero]
  | succ n ih =>
    show sumR n (fun k => c * f k) + c * f n = c * (sumR n f + f n)
    rw [ih, Int.mul_add]
theorem sumR_swap (F : Nat → Nat → Int) (m : Nat) : ∀ (n : Nat), sumR n (fun i => sumR m (fun j => F i j)) = sumR m (fun j => sumR n (fun i => F i j)) := by
  intro n
  induction n with
  | zero => exact (sumR_zero m).symm
  | succ n ih =>
    show sumR n (fun i => sumR m (fun j => F i j)) + sumR m (fun j => F n j) = sumR m (fun j => sumR n (fun i => F i j) + F n j)
    rw [ih, sumR_add]
/-- all but one are nothing -/
theorem sumR_one {f : Nat → Int} {k : Nat} : ∀ {n : Nat}, k < n → (∀ j : Nat, j < n → j ≠ k → f j = 0) → sumR n f = f k := by
  intro n
  induction n with
  | zero => intro hk; omega
  | succ n ih =>
    intro hk hz
    show sumR n f + f n = f k
    by_cases e : k = n
    · subst e
      rw [sumR_congr (g := fun _ => 0) (fun j hj => hz j (by omega) (by omega)), sumR_zero]
      omega
    · rw [ih (by omega) (fun j hj hne => hz j (by omega) hne), hz n (by omega) (fun z => e z.symm)]
      omega
theorem sumR_upd {f : Nat → Int} {k : Nat} {v : Int} {n : Nat} (hk : k < n) : sumR n (fun j => if j = k then v else f j) = sumR n f + v - f k := by
  have e1 : sumR n (fun j => if j = k then v - f k else 0) = v - f k := by
    rw [sumR_one hk (fun j _ hne => if_neg hne), if_pos rfl]
  have e2 : sumR n (fun j => if j = k then v else f j) = sumR n (fun j => f j + (if j = k then v - f k else 0)) := by
    apply sumR_congr
    intro j _
    by_cases e : j = k
    · subst e; rw [if_pos rfl, if_pos rfl]; omega
    · rw [if_neg e, if_neg e]; omega
  rw [e2, sumR_add, e1]
  omega
theorem sumR_nonneg {f : Nat → Int} : ∀ {n : Nat}, (∀ k : Nat, k < n → 0 ≤ f k) → 0 ≤ sumR n f := by
  intro n
  induction n with
  | zero => intro _; exact Int.le_refl _
  | succ n ih =>
    intro hz
    have h1 := ih (fun k hk => hz k (by omega))
    have h2 := hz n (by omega)
    show 0 ≤ sumR n f + f n
    omega
theorem sumR_le {f g : Nat → Int} : ∀ {n : Nat}, (∀ k : Nat, k < n → f k ≤ g k) → sumR n f ≤ sumR n g := by
  intro n
  induction n with
  | zero => intro _; exact Int.le_refl _
  | succ n ih =>
    intro hz
    have h1 := ih (fun k hk => hz k (by omega))
    have h2 := hz n (by omega)
    show sumR n f + f n ≤ sumR n g + g n
    omega
theorem sumR_pos {f : Nat → Int} : ∀ {n : Nat}, 0 < sumR n f → ∃ k : Nat, k < n ∧ 0 < f k := by
  intro n
  induction n with
  | zero => intro hz; exact absurd hz (Int.lt_irrefl 0)
  | succ n ih =>
    intro hz
    by_cases c0 : 0 < f n
    · exact ⟨n, by omega, c0⟩
    · have hz2 : 0 < sumR n f + f n := hz
      obtain ⟨k, h1, h2⟩ := ih (by omega)
      exact ⟨k, by omega, h2⟩
/-- a part of the summands -/
theorem sumR_part {f : Nat → Int} {n : Nat} (hf : ∀ k : Nat, k < n → 0 ≤ f k) (l : List Nat) (hl : l.Nodup) (hm : ∀ k ∈ l, k < n) : (l.map f).sum ≤ sumR n f := by
  have e1 : ∀ (l : List Nat), l.Nodup → (∀ k ∈ l, k < n) → (l.map f).sum = sumR n (fun k => if k ∈ l then f k else 0) := by
    intro l
    induction l with
    | nil =>
      intro _ _
      simp [sumR_zero]
    | cons a l ih =>
      intro h1 h2
      rw [List.nodup_cons] at h1
      have h3 := ih h1.2 (fun k hk => h2 k (List.mem_cons_of_mem _ hk))
      rw [List.map_cons, List.sum_cons, h3]
      have ha : a < n := h2 a List.mem_cons_self
      have e2 : sumR n (fun k => if k = a then f k else 0) = f a := by
        rw [sumR_one ha (fun j _ hne => if_neg hne), if_pos rfl]
      rw [← e2, ← sumR_add]
      apply sumR_congr
      intro k _
      by_cases e : k = a
      · subst e
        simp [h1.1]
      · simp [e]
  rw [e1 l hl hm]
  apply sumR_le
  intro k hk
  split
  · exact Int.le_refl _
  · exact hf k hk
/-- as many as there are -/
theorem sumR_count (P : Nat → Bool) : ∀ (n : Nat), sumR n (fun k => if P k = true then 1 else 0) = (((List.range n).filter P).length : Int) := by
  intro n
  induction n with
  | zero => rfl
  | succ n ih =>
    show sumR n (fun k => if P k = true then 1 else 0) + (if P n = true then 1 else 0) = _
    rw [ih, List.range_succ, List.filter_append]
    by_cases e : P n = true
    · simp [e]
    · simp [e]
