/-! THE WRITTEN WORLD FOR THE KERNEL'S MACHINE, and how a call is owed when it was checked. By program (wip/tools/mk47.py). -/
def zT0 : Lean.RArray zC := .branch 58 (.branch 57 (.branch 9 (.branch 2 (.branch 1 (.leaf (.inr (8, [.inr (.inl 1), .inr (.inl 18), .inr (.inl 35), .inr (.inl 38), .inr (.inl 41), .inr (.inl 45), .inr (.inl 48), .inr (.inl 51), .inr (.inl 54), .inr (.inl 56)]))) (.leaf (.inr (1, [.inr (.inl 2), .inr (.inl 9), .inr (.inl 10), .inr (.inl 11), .inr (.inl 12), .inr (.inl 13), .inr (.inl 14), .inl 2, .inl 5, .inr (.inl 15), .inr (.inl 16), .inr (.inl 17), .inl 0])))) (.branch 3 (.leaf (.inr (5, [.inr (.inl 3), .inr (.inl 4), .inr (.inl 5), .inr (.inl 6), .inr (.inl 7), .inr (.inl 8), .inr (.inr (.inl 15)), .inl 0, .inl 313]))) (.branch 4 (.leaf (.inl (0, 40, .branch 3 (.branch 1 (.leaf (.inl 4294966296)) (.leaf (.inl 1000))) (.branch 4 (.leaf (.inl 4294966296)) (.leaf (.inl 0)))))) (.branch 5 (.leaf (.inl (0, 40, .branch 2 (.leaf (.inl 4294966296)) (.branch 4 (.leaf (.inl 1000)) (.leaf (.inl 0)))))) (.branch 7 (.branch 6 (.leaf (.inl (0, 40, .leaf (.inl 0)))) (.leaf (.inl (1, 40, .branch 2 (.branch 1 (.leaf (.inr (.inr (.inl 10)))) (.leaf (.inr (.inr (.inl 5))))) (.branch 3 (.leaf (.inr (.inr (.inl 10)))) (.branch 4 (.leaf (.inr (.inr (.inl 5)))) (.leaf (.inr (.inr (.inl 0)))))))))) (.branch 8 (.leaf (.inl (0, 8, .leaf (.inl 0)))) (.leaf (.inl (0, 8, .leaf (.inl 0)))))))))) (.branch 25 (.branch 10 (.leaf (.inl (0, 1600, .branch 80 (.branch 3 (.branch 1 (.leaf (.inl 4294967295)) (.branch 2 (.leaf (.inl 2)) (.leaf (.inl 3)))) (.branch 42 (.leaf (.inl 4294967295)) (.branch 43 (.leaf (.inl 0)) (.leaf (.inl 4294967295))))) (.branch 84 (.branch 81 (.leaf (.inl 1)) (.branch 83 (.leaf (.inl 4294967295)) (.leaf (.inl 0)))) (.branch 120 (.leaf (.inl 4294967295)) (.branch 121 (.leaf (.inl 2)) (.leaf (.inl 4294967295)))))))) (.branch 14 (.branch 12 (.branch 11 (.leaf (.inl (0, 1600, .branch 83 (.branch 2 (.leaf (.inl 0)) (.branch 3 (.leaf (.inl 1)) (.leaf (.inl 0)))) (.branch 120 (.branch 84 (.leaf (.inl 1)) (.leaf (.inl 0))) (.branch 121 (.leaf (.inl 1)) (.leaf (.inl 0))))))) (.leaf (.inl (0, 222, .branch 3 (.branch 1 (.leaf (.inl 0)) (.branch 2 (.leaf (.inl 1)) (.leaf (.inl 2)))) (.branch 5 (.branch 4 (.leaf (.inl 0)) (.leaf (.inl 2))) (.branch 6 (.leaf (.inl 3)) (.leaf (.inl 0)))))))) (.branch 13 (.leaf (.inl (0, 226, .branch 5 (.branch 2 (.branch 1 (.leaf (.inl 0)) (.leaf (.inl 1))) (.branch 3 (.leaf (.inl 0)) (.branch 4 (.leaf (.inl 2)) (.leaf (.inl 0))))) (.branch 7 (.branch 6 (.leaf (.inl 3)) (.leaf (.inl 1))) (.branch 9 (.leaf (.inl 2)) (.branch 10 (.leaf (.inl 3)) (.leaf (.inl 0)))))))) (.leaf (.inl (1, 40, .branch 2 (.branch 1 (.leaf (.inr (.inr (.inl 14)))) (.leaf (.inr (.inr (.inl 5))))) (.branch 3 (.leaf (.inr (.inr (.inl 11)))) (.branch 4 (.leaf (.inr (.inr (.inl 5)))) (.leaf (.inr (.inr (.inl 0))))))))))) (.branch 18 (.branch 16 (.branch 15 (.leaf (.inl (0, 40, .leaf (.inl 0)))) (.leaf (.inl (1, 40, .branch 4 (.leaf (.inr (.inr (.inl 2000000)))) (.leaf (.inr (.inr (.inl 0)))))))) (.branch 17 (.leaf (.inl (1, 40, .leaf (.inr (.inr (.inl 0)))))) (.leaf (.inl (0, 800, .leaf (.inl 0)))))) (.branch 21 (.branch 19 (.leaf (.inr (1, [.inr (.inl 19), .inr (.inl 26), .inr (.inl 27), .inr (.inl 28), .inr (.inl 29), .inr (.inl 30), .inr (.inl 31), .inl 0, .inl 0, .inr (.inl 32), .inr (.inl 33), .inr (.inl 34), .inl 0]))) (.branch 20 (.leaf (.inr (5, [.inr (.inl 20), .inr (.inl 21), .inr (.inl 22), .inr (.inl 23), .inr (.inl 24), .inr (.inl 25), .inr (.inr (.inl 0)), .inl 0, .inl 0]))) (.leaf (.inl (0, 40, .leaf (.inl 0)))))) (.branch 23 (.branch 22 (.leaf (.inl (0, 40, .leaf (.inl 0)))) (.leaf (.inl (0, 40, .leaf (.inl 0))))) (.branch 24 (.leaf (.inl (1, 40, .leaf (.inr (.inr (.inl 0)))))) (.leaf (.inl (0, 8, .leaf (.inl 0)))))))))) (.branch 46 (.branch 39 (.branch 33 (.branch 29 (.branch 27 (.branch 26 (.leaf (.inl (0, 8, .leaf (.inl 0)))) (.leaf (.inl (0, 1600, .leaf (.inl 0))))) (.branch 28 (.leaf (.inl (0, 1600, .leaf (.inl 0)))) (.leaf (.inl (0, 222, .leaf (.inl 0)))))) (.branch 31 (.branch 30 (.leaf (.inl (0, 226, .leaf (.inl 0)))) (.leaf (.inl (1, 40, .leaf (.inr (.inr (.inl 0))))))) (.branch 32 (.leaf (.inl (0, 40, .leaf (.inl 0)))) (.leaf (.inl (1, 40, .leaf (.inr (.inr (.inl 0))))))))) (.branch 36 (.branch 35 (.branch 34 (.leaf (.inl (1, 40, .leaf (.inr (.inr (.inl 0)))))) (.leaf (.inl (0, 800, .leaf (.inl 0))))) (.leaf (.inr (3, [.inr (.inl 36), .inr (.inl 37), .inl 0])))) (.branch 37 (.leaf (.inl (0, 7581, .leaf (.inl 0)))) (.branch 38 (.leaf (.inl (1, 861, .leaf (.inr (.inr (.inl 0)))))) (.leaf (.inr (3, [.inr (.inl 39), .inr (.inl 40), .inl 0]))))))) (.branch 43 (.branch 42 (.branch 41 (.branch 40 (.leaf (.inl (0, 7581, .branch 138 (.branch 40 (.branch 3 (.branch 1 (.leaf (.inl 4294966296)) (.leaf (.inl 1000))) (.branch 4 (.leaf (.inl 4294966296)) (.leaf (.inl 0)))) (.branch 44 (.branch 42 (.leaf (.inl 4294966296)) (.leaf (.inl 1000))) (.branch 137 (.leaf (.inl 0)) (.leaf (.inl 313))))) (.branch 142 (.branch 140 (.branch 139 (.leaf (.inl 2)) (.leaf (.inl 0))) (.branch 141 (.leaf (.inl 1)) (.leaf (.inl 2)))) (.branch 144 (.branch 143 (.leaf (.inl 0)) (.leaf (.inl 2))) (.branch 145 (.leaf (.inl 3)) (.leaf (.inl 0)))))))) (.leaf (.inl (1, 861, .branch 3 (.branch 1 (.leaf (.inr (.inr (.inl 10)))) (.branch 2 (.leaf (.inr (.inr (.inl 5)))) (.leaf (.inr (.inr (.inl 10)))))) (.branch 40 (.branch 4 (.leaf (.inr (.inr (.inl 5)))) (.leaf (.inr (.inr (.inl 0))))) (.branch 41 (.leaf (.inr (.inr (.inl 15)))) (.leaf (.inr (.inr (.inl 0)))))))))) (.leaf (.inr (4, [.inr (.inl 42), .inr (.inl 43), .inl 0, .inr (.inl 44)])))) (.leaf (.inl (0, 74, .leaf (.inl 0))))) (.branch 44 (.leaf (.inl (0, 74, .leaf (.inl 0)))) (.branch 45 (.leaf (.inl (0, 74, .leaf (.inl 0)))) (.leaf (.inr (7, [.inr (.inl 46), .inr (.inl 47)]))))))) (.branch 51 (.branch 47 (.leaf (.inl (0, 40, .leaf (.inl 0)))) (.branch 49 (.branch 48 (.leaf (.inl (0, 113, .leaf (.inl 0)))) (.leaf (.inr (2, [.inr (.inl 49), .inl 0, .inr (.inl 50)])))) (.branch 50 (.leaf (.inl (0, 74, .leaf (.inl 0)))) (.leaf (.inl (0, 74, .leaf (.inl 0))))))) (.branch 53 (.branch 52 (.leaf (.inr (6, [.inr (.inl 52), .inl 0, .inr (.inl 53)]))) (.leaf (.inl (0, 40, .leaf (.inl 0))))) (.branch 54 (.leaf (.inl (0, 40, .leaf (.inl 0)))) (.branch 56 (.branch 55 (.leaf (.inr (0, [.inr (.inl 55), .inl 0]))) (.leaf (.inl (0, 40, .leaf (.inl 0))))) (.leaf (.inl (0, 40, .leaf (.inl 0))))))))))) (.leaf (.inr (9, [.inr (.inl 58), .inr (.inl 59), .inr (.inl 60), .inr (.inl 61), .inl 2, .inr (.inl 62), .inr (.inl 63), .inr (.inl 64), .inr (.inl 65), .inr (.inl 66), .inr (.inl 67), .inr (.inl 68), .inr (.inl 69), .inl 0, .inl 0, .inr (.inl 70), .inl 0, .inr (.inl 71), .inl 2])))) (.branch 59 (.leaf (.inl (0, 37340, .branch 164 (.branch 10 (.branch 6 (.branch 3 (.branch 2 (.leaf (.inl 0)) (.leaf (.inl 313))) (.branch 4 (.leaf (.inl 1)) (.leaf (.inl 4294966296)))) (.branch 8 (.branch 7 (.leaf (.inl 0)) (.leaf (.inl 1))) (.branch 9 (.leaf (.inl 1000)) (.leaf (.inl 4294966296))))) (.branch 15 (.branch 12 (.branch 11 (.leaf (.inl 0)) (.leaf (.inl 1))) (.branch 14 (.leaf (.inl 1000)) (.leaf (.inl 0)))) (.branch 17 (.branch 16 (.leaf (.inl 1)) (.leaf (.inl 4294966296))) (.branch 18 (.leaf (.inl 1000)) (.leaf (.inl 0)))))) (.branch 244 (.branch 203 (.branch 166 (.branch 165 (.leaf (.inl 2)) (.leaf (.inl 0))) (.branch 167 (.leaf (.inl 2)) (.leaf (.inl 0)))) (.branch 205 (.branch 204 (.leaf (.inl 2)) (.leaf (.inl 0))) (.branch 206 (.leaf (.inl 2)) (.leaf (.inl 0))))) (.branch 283 (.branch 246 (.branch 245 (.leaf (.inl 2)) (.leaf (.inl 0))) (.branch 247 (.leaf (.inl 2)) (.leaf (.inl 0)))) (.branch 285 (.branch 284 (.leaf (.inl 2)) (.leaf (.inl 0))) (.branch 286 (.leaf (.inl 2)) (.leaf (.inl 0))))))))) (.branch 60 (.leaf (.inl (0, 37340, .branch 164 (.branch 10 (.branch 6 (.branch 3 (.branch 2 (.leaf (.inl 0)) (.leaf (.inl 313))) (.branch 4 (.leaf (.inl 1)) (.leaf (.inl 4294966296)))) (.branch 8 (.branch 7 (.leaf (.inl 0)) (.leaf (.inl 1))) (.branch 9 (.leaf (.inl 1000)) (.leaf (.inl 4294966296))))) (.branch 15 (.branch 12 (.branch 11 (.leaf (.inl 0)) (.leaf (.inl 1))) (.branch 14 (.leaf (.inl 1000)) (.leaf (.inl 0)))) (.branch 17 (.branch 16 (.leaf (.inl 1)) (.leaf (.inl 4294966296))) (.branch 18 (.leaf (.inl 1000)) (.leaf (.inl 0)))))) (.branch 244 (.branch 203 (.branch 166 (.branch 165 (.leaf (.inl 2)) (.leaf (.inl 0))) (.branch 167 (.leaf (.inl 2)) (.leaf (.inl 0)))) (.branch 205 (.branch 204 (.leaf (.inl 2)) (.leaf (.inl 0))) (.branch 206 (.leaf (.inl 2)) (.leaf (.inl 0))))) (.branch 283 (.branch 246 (.branch 245 (.leaf (.inl 2)) (.leaf (.inl 0))) (.branch 247 (.leaf (.inl 2)) (.leaf (.inl 0)))) (.branch 285 (.branch 284 (.leaf (.inl 2)) (.leaf (.inl 0))) (.branch 286 (.leaf (.inl 2)) (.leaf (.inl 0))))))))) (.branch 62 (.branch 61 (.leaf (.inl (0, 240, .branch 3 (.branch 1 (.leaf (.inl 0)) (.branch 2 (.leaf (.inl 1)) (.leaf (.inl 2)))) (.branch 5 (.branch 4 (.leaf (.inl 0)) (.leaf (.inl 2))) (.branch 6 (.leaf (.inl 3)) (.leaf (.inl 0))))))) (.leaf (.inl (0, 1600, .branch 80 (.branch 3 (.branch 1 (.leaf (.inl 4294967295)) (.branch 2 (.leaf (.inl 0)) (.leaf (.inl 1)))) (.branch 42 (.leaf (.inl 4294967295)) (.branch 43 (.leaf (.inl 0)) (.leaf (.inl 4294967295))))) (.branch 84 (.branch 81 (.leaf (.inl 0)) (.branch 83 (.leaf (.inl 4294967295)) (.leaf (.inl 1)))) (.branch 120 (.leaf (.inl 4294967295)) (.branch 121 (.leaf (.inl 1)) (.leaf (.inl 4294967295))))))))) (.branch 66 (.branch 65 (.branch 64 (.branch 63 (.leaf (.inl (0, 1778, .leaf (.inl 0)))) (.leaf (.inl (2, 80, .leaf (.inl 0))))) (.leaf (.inl (0, 40, .leaf (.inl 0))))) (.leaf (.inl (0, 80, .leaf (.inl 0))))) (.branch 69 (.branch 68 (.branch 67 (.leaf (.inl (0, 80, .leaf (.inl 0)))) (.leaf (.inl (0, 40, .leaf (.inl 0))))) (.leaf (.inl (0, 40, .leaf (.inl 0))))) (.branch 70 (.leaf (.inl (0, 40, .leaf (.inl 0)))) (.branch 71 (.leaf (.inl (0, 80, .leaf (.inl 0)))) (.branch 72 (.leaf (.inl (0, 80, .branch 1 (.leaf (.inl 42)) (.branch 2 (.leaf (.inl 83)) (.leaf (.inl 0)))))) (.leaf (.inl (9, 0, .leaf zVd)))))))))))
def zVq (v : zV) (c : Value) : Bool := match v, c with
  | .inl n, .int x => Nat.ble n 4294967295 && decide (Int32.ofNat n = x)
  | .inr (.inl a), .ref b => Nat.beq a b
  | .inr (.inr (.inl n)), .long x => Nat.ble n 18446744073709551615 && decide (Int64.ofNat n = x)
  | _, _ => false
theorem zVq_ok {ρ : Nat → Int} {v : zV} {c : Value} (h : zVq v c = true) : yV ρ v c := by
  unfold zVq at h
  split at h
  · rw [Bool.and_eq_true] at h
    exact ⟨Nat.lt_of_le_of_lt (pBle h.1) (by decide), by rw [of_decide_eq_true h.2]⟩
  · rw [pBeq h]
    rfl
  · rw [Bool.and_eq_true] at h
    exact ⟨Nat.lt_of_le_of_lt (pBle h.1) (by decide), by rw [of_decide_eq_true h.2]⟩
  · cases h
def zTq : List zV → List Value → Bool
  | [], [] => true
  | v :: S, c :: st => zVq v c && zTq S st
  | _, _ => false
theorem zTq_ok {ρ : Nat → Int} : ∀ {S : List zV} {st : List Value}, zTq S st = true → yT ρ S st := by
  intro S
  induction S with
  | nil => intro st h; cases st with
    | nil => trivial
    | cons c st => cases h
  | cons v S ih => intro st h; cases st with
    | nil => cases h
    | cons c st =>
      unfold zTq at h
      rw [Bool.and_eq_true] at h
      exact ⟨zVq_ok h.1, ih h.2⟩
noncomputable def zCq (x : zC) (c : pCell) : Bool := match x, c with
  | .inl (k, n, t), .inl (k', n', .inl f) => Nat.beq k k' && (Nat.beq n n' && (Nat.ble n 2147483647 && (!(Nat.beq k 1) && Nat.rec (motive := fun _ => Bool) true (fun j ih => zVq (t.get j) (.int (f j)) && ih) n)))
  | .inl (k, n, t), .inl (k', n', .inr (.inl f)) => Nat.beq k 1 && (Nat.beq k' 1 && (Nat.beq n n' && (Nat.ble n 2147483647 && Nat.rec (motive := fun _ => Bool) true (fun j ih => zVq (t.get j) (.long (f j)) && ih) n)))
  | .inr (ci, fs), .inr (ci', gs) => Nat.beq ci ci' && zTq fs gs
  | _, _ => false
theorem zCq_ok {ρ : Nat → Int} {x : zC} {c : pCell} (h : zCq x c = true) : yC ρ x (some c) := by
  rcases x with ⟨k, n, t⟩ | ⟨ci, fs⟩
  · rcases c with ⟨k', n', f | f | f⟩ | o
    · have h : (Nat.beq k k' && (Nat.beq n n' && (Nat.ble n 2147483647 && (!(Nat.beq k 1) && Nat.rec (motive := fun _ => Bool) true (fun j ih => zVq (t.get j) (.int (f j)) && ih) n)))) = true := h
      rw [Bool.and_eq_true, Bool.and_eq_true, Bool.and_eq_true, Bool.and_eq_true, Bool.not_eq_true'] at h
      obtain ⟨h1, h2, h3, h4, h5⟩ := h
      have h1 := pBeq h1
      have h2 := pBeq h2
      subst h1
      subst h2
      exact fun _ => ⟨Nat.lt_of_le_of_lt (pBle h3) (by decide), fun e => absurd e (nbeqf h4), fun _ => ⟨f, rfl, fun j hj => zVq_ok (allB (P := fun j => zVq (t.get j) (.int (f j))) h5 j hj)⟩⟩
    · have h : (Nat.beq k 1 && (Nat.beq k' 1 && (Nat.beq n n' && (Nat.ble n 2147483647 && Nat.rec (motive := fun _ => Bool) true (fun j ih => zVq (t.get j) (.long (f j)) && ih) n)))) = true := h
      rw [Bool.and_eq_true, Bool.and_eq_true, Bool.and_eq_true, Bool.and_eq_true] at h
      obtain ⟨h1, h2, h3, h4, h5⟩ := h
      have h1 := pBeq h1
      have h2 := pBeq h2
      have h3 := pBeq h3
      subst h1
      subst h2
      subst h3
      exact fun _ => ⟨Nat.lt_of_le_of_lt (pBle h4) (by decide), fun _ => ⟨f, rfl, fun j hj => zVq_ok (allB (P := fun j => zVq (t.get j) (.long (f j))) h5 j hj)⟩, fun e => absurd rfl e⟩
    · cases h
    · cases h
  · rcases c with ⟨k', n', f | f | f⟩ | ⟨ci', gs⟩
    · cases h
    · cases h
    · cases h
    · have h : (Nat.beq ci ci' && zTq fs gs) = true := h
      rw [Bool.and_eq_true] at h
      have h1 := pBeq h.1
      subst h1
      exact ⟨gs, rfl, zTq_ok h.2⟩
noncomputable def zWq (t : Lean.RArray zC) : Nat → pW → Bool
  | _, [] => true
  | k, c :: w => zCq (t.get k) c && zWq t (k + 1) w
theorem zWq_ok {ρ : Nat → Int} {t : Lean.RArray zC} : ∀ {w : pW} {k : Nat}, zWq t k w = true → ∀ j, j < w.length → yC ρ (t.get (k + j)) w[j]? := by
  intro w
  induction w with
  | nil => intro k _ j hj; exact absurd hj (Nat.not_lt_zero _)
  | cons c w ih =>
    intro k h j hj
    unfold zWq at h
    rw [Bool.and_eq_true] at h
    cases j with
    | zero => exact zCq_ok h.1
    | succ j =>
      have := ih h.2 j (Nat.lt_of_succ_lt_succ hj)
      rw [show k + 1 + j = k + (j + 1) by omega] at this
      exact this
set_option maxRecDepth 1000000 in
theorem zT0_q : zWq zT0 0 w0e = true := by decide +kernel
def zSp (n : Nat) : Lean.RArray zC → Bool
  | .leaf _ => true
  | .branch p _ r => Nat.ble p n && zSp n r
def zLs : Lean.RArray zC → zC
  | .leaf x => x
  | .branch _ _ r => zLs r
theorem zSp_ok {n : Nat} : ∀ {t : Lean.RArray zC}, zSp n t = true → ∀ k, n ≤ k → zg t k = zLs t := by
  intro t
  induction t with
  | leaf x => intro _ k _; rfl
  | branch p l r _ ihr =>
    intro h k hk
    have h : (Nat.ble p n && zSp n r) = true := h
    rw [Bool.and_eq_true] at h
    rw [zg_br, if_pos (Nat.le_trans (pBle h.1) hk)]
    exact ihr h.2 k hk
theorem zT0_l : w0e.length = 72 := by decide +kernel
theorem zT0_ok {ρ : Nat → Int} {D : zD} (hD : okD ρ D) : yW ρ (D, 72, zT0) w0e := by
  refine ⟨hD, zT0_l, fun k => ?_⟩
  rcases Nat.lt_or_ge k 72 with h | h
  · have := zWq_ok (ρ := ρ) zT0_q k (by rw [zT0_l]; exact h)
    rw [Nat.zero_add] at this
    exact this
  · have e : zT0.get k = .inl (9, 0, .leaf zVd) := by
      exact zSp_ok (n := 72) (t := zT0) (by decide +kernel) k h
    show yC ρ (zT0.get k) _
    rw [e]
    exact fun h => absurd h (by decide)
/-- the answers alike -/
def zVe (v u : zV) : Bool := match v, u with
  | .inl m, .inl n => Nat.beq m n
  | .inr (.inr (.inr (.inl p))), .inr (.inr (.inr (.inl q))) => zPeq p q
  | _, _ => false
def zVel (v u : zV) : Bool := match v, u with
  | .inr (.inr (.inl m)), .inr (.inr (.inl n)) => Nat.beq m n
  | .inr (.inr (.inr (.inr (.inl p)))), .inr (.inr (.inr (.inr (.inl q)))) => zPeq p q
  | _, _ => false
theorem zVe_ok {ρ : Nat → Int} {v u : zV} {c d : Value} (h : zVe v u = true) (hv : yV ρ v c) (hu : yV ρ u d) : ∃ i, c = .int i ∧ d = .int i := by
  unfold zVe at h
  split at h
  · rename_i m n
    have := pBeq h
    subst this
    exact ⟨_, hv.2, hu.2⟩
  · rename_i p q
    have := zPeq_ok h
    subst this
    exact ⟨_, hv, hu⟩
  · cases h
theorem zVel_ok {ρ : Nat → Int} {v u : zV} {c d : Value} (h : zVel v u = true) (hv : yV ρ v c) (hu : yV ρ u d) : ∃ i, c = .long i ∧ d = .long i := by
  unfold zVel at h
  split at h
  · rename_i m n
    have := pBeq h
    subst this
    exact ⟨_, hv.2, hu.2⟩
  · rename_i p q
    have := zPeq_ok h
    subst this
    exact ⟨_, hv, hu⟩
  · cases h
/-- how large the world is -/
noncomputable def zSz (t : Lean.RArray zC) (n : Nat) : Nat := Nat.rec (motive := fun _ => Nat) 0 (fun k ih => Nat.add (Sum.rec (motive := fun _ => Nat) (fun o => Bool.rec (motive := fun _ => Nat) 10000000 o.2.1 (Nat.ble o.1 2)) (fun o => o.2.length) (t.get k)) ih) n
theorem pwsz_cat {u v : pW} : pwsz (u ++ v) = pwsz u + pwsz v := by
  unfold pwsz
  rw [List.map_append, List.sum_append]
theorem zSz_ok {ρ : Nat → Int} {t : Lean.RArray zC} {w : pW} (h : ∀ k, yC ρ (t.get k) w[k]?) : ∀ {n : Nat}, n ≤ w.length → zSz t n < 10000000 → pwsz (w.take n) = zSz t n := by
  intro n
  induction n with
  | zero => intro _ _; rfl
  | succ n ih =>
    intro hn hs
    have e0 : zSz t (n + 1) = (Sum.rec (motive := fun _ => Nat) (fun o => Bool.rec (motive := fun _ => Nat) 10000000 o.2.1 (Nat.ble o.1 2)) (fun o => o.2.length) (t.get n)) + zSz t n := rfl
    rw [e0] at hs ⊢
    rw [List.take_add_one, pwsz_cat, ih (by omega) (by omega)]
    have hk := h n
    cases hg : t.get n with
    | inr o =>
      obtain ⟨ci, fs⟩ := o
      rw [hg] at hk
      obtain ⟨gs, hw, hT⟩ := hk
      rw [hw]
      show zSz t n + pwsz [.inr (ci, gs)] = fs.length + zSz t n
      have hl : fs.length = gs.length := by
        clear hw hg h hs e0
        induction fs generalizing gs with
        | nil =>
          rw [yT_n hT]
          rfl
        | cons v fs ih2 =>
          obtain ⟨c, gs, rfl, _, hT⟩ := yT_c hT
          exact congrArg Nat.succ (ih2 _ hT)
      show zSz t n + (gs.length + 0) = _
      omega
    | inl o =>
      obtain ⟨k, m, u⟩ := o
      rw [hg] at hk hs
      have e1 : (Sum.rec (motive := fun _ => Nat) (fun o => Bool.rec (motive := fun _ => Nat) 10000000 o.2.1 (Nat.ble o.1 2)) (fun o => o.2.length) (Sum.inl (k, m, u) : zC)) = Bool.rec (motive := fun _ => Nat) 10000000 m (Nat.ble k 2) := rfl
      rw [e1] at hs ⊢
      cases h2 : Nat.ble k 2 with
      | false =>
        rw [h2] at hs
        have hs : 10000000 + zSz t n < 10000000 := hs
        omega
      | true =>
        obtain ⟨_, g1, g2⟩ := hk (pBle h2)
        by_cases e : k = 1
        · obtain ⟨f, hw, _⟩ := g1 e
          rw [hw]
          show zSz t n + (m + 0) = m + zSz t n
          omega
        · obtain ⟨f, hw, _⟩ := g2 e
          rw [hw]
          show zSz t n + (m + 0) = m + zSz t n
          omega
noncomputable def zWz (W : zW) : Bool := Nat.ble W.2.1 600000 && Nat.ble (zSz W.2.2 W.2.1) 7302250
theorem zWz_ok {ρ : Nat → Int} {W : zW} {w : pW} (hW : yW ρ W w) (h : zWz W = true) : w.length ≤ 600000 ∧ pwsz w ≤ 7302250 := by
  unfold zWz at h
  rw [Bool.and_eq_true] at h
  have h1 := pBle h.1
  have h2 := pBle h.2
  have e := hW.2.1
  have := zSz_ok hW.2.2 (n := w.length) (Nat.le_refl _) (by rw [e]; omega)
  rw [List.take_length] at this
  rw [this, e]
  exact ⟨h1, h2⟩
/-- one call on both, from a world -/
noncomputable def zCall (e : zV → zV → Bool) (n jx jm : Nat) (as : List zV) (W : zW) : zR := zGo zMM n jx (.inr (.inl 0) :: as) W (fun r W1 => Option.rec (motive := fun _ => zR) none (fun v => zGo zMM n jm (.inr (.inl 57) :: as) W1 (fun r2 W2 => Option.rec (motive := fun _ => zR) none (fun u => Bool.rec (motive := fun _ => zR) none (some (none, W2)) (e v u && zWz W2)) r2)) r)
theorem zCall_ok {ρ : Nat → Int} {e : zV → zV → Bool} {n jx jm : Nat} {as : List zV} {W : zW} {w : pW} {cas : List Value} (hx : jx < 357) (hm : jm < 357) (h : (zCall e n jx jm as W).isSome = true) (hW : yW ρ W w) (ha : yT ρ as cas) : ∃ v u c d w1 w2, e v u = true ∧ yV ρ v c ∧ yV ρ u d ∧ pRun jx (.ref 0 :: cas) w (some c) w1 ∧ pRun jm (.ref 57 :: cas) w1 (some d) w2 ∧ w2.length ≤ 600000 ∧ pwsz w2 ≤ 7302250 := by
  obtain ⟨x, hx9⟩ := Option.isSome_iff_exists.mp h
  obtain ⟨r, W1, h1, H1⟩ := zGo_ok zMM_ok hx hx9
  obtain ⟨v, rfl, h1⟩ := zO0 h1
  obtain ⟨r2, W2, h2, H2⟩ := zGo_ok (ρ := ρ) zMM_ok hm h1
  obtain ⟨u, rfl, h2⟩ := zO0 h2
  obtain ⟨h3, h2⟩ := zBt h2
  rw [Bool.and_eq_true] at h3
  obtain ⟨cr, w1, a1, a2, a3⟩ := H1 (.ref 0 :: cas) w ⟨rfl, ha⟩ hW
  obtain ⟨cr2, w2, b1, b2, b3⟩ := H2 (.ref 57 :: cas) w1 ⟨rfl, ha⟩ a2
  cases cr with
  | none => exact a1.elim
  | some c =>
    cases cr2 with
    | none => exact b1.elim
    | some d =>
      obtain ⟨z1, z2⟩ := zWz_ok b2 h3.2
      exact ⟨v, u, c, d, w1, w2, h3.1, a1, b1, a3, b3, z1, z2⟩
theorem zCall_I {ρ : Nat → Int} {n jx jm : Nat} {as : List zV} {D : zD} {cas : List Value} (hx : jx < 357) (hm : jm < 357) (h : (zCall zVe n jx jm as (D, 72, zT0)).isSome = true) (hD : okD ρ D) (ha : yT ρ as cas) : lOweI 57 w0e jx jm cas := by
  obtain ⟨v, u, c, d, w1, w2, e, hv, hu, r1, r2, z1, z2⟩ := zCall_ok hx hm h (zT0_ok hD) ha
  obtain ⟨i, rfl, rfl⟩ := zVe_ok e hv hu
  exact ⟨i, w1, w2, r1, r2, z1, z2⟩
theorem zCall_L {ρ : Nat → Int} {n jx jm : Nat} {as : List zV} {D : zD} {cas : List Value} (hx : jx < 357) (hm : jm < 357) (h : (zCall zVel n jx jm as (D, 72, zT0)).isSome = true) (hD : okD ρ D) (ha : yT ρ as cas) : lOweL 57 w0e jx jm cas := by
  obtain ⟨v, u, c, d, w1, w2, e, hv, hu, r1, r2, z1, z2⟩ := zCall_ok hx hm h (zT0_ok hD) ha
  obtain ⟨i, rfl, rfl⟩ := zVel_ok e hv hu
  exact ⟨i, w1, w2, r1, r2, z1, z2⟩
theorem okD_0 : okD (fun _ => 0) ([], []) := ⟨fun v => by
  show (-4294967296 : Int) ≤ 0 ∧ (0 : Int) ≤ 4294967296
  decide, fun e h => by cases h⟩
