/-! THE FIRST SHORT CUTS: copying a whole row, filling a row. -/
def pbl (k : Nat) : Bool := Nat.ble k 2147483647
def oCopy (as : List Value) (w : pW) : Option (Option Value × pW) := match as with
  | [.ref a, .ref b] => (match w[a]?, w[b]? with
    | some (.inl (k0, n, .inl f)), some (.inl (k1, n', .inl g)) => bif Nat.beq k0 0 && Nat.beq k1 0 && !(Nat.beq b a) && Nat.ble 37340 n && Nat.ble 37340 n' && pbl n && pbl n' then some (none, w.set b (.inl (0, n', .inl (cpF f g 37340)))) else none
    | _, _ => none)
  | _ => none
def oFill (as : List Value) (w : pW) : Option (Option Value × pW) := match as with
  | [.ref a, .int v] => (match w[a]? with
    | some (.inl (k0, n, .inl g)) => bif Nat.beq k0 0 && pbl n then some (none, w.set a (.inl (0, n, .inl (flF v g n)))) else none
    | _ => none)
  | _ => none
def oFillL (as : List Value) (w : pW) : Option (Option Value × pW) := match as with
  | [.ref a, .long v] => (match w[a]? with
    | some (.inl (k0, n, .inr (.inl g))) => bif Nat.beq k0 1 && pbl n then some (none, w.set a (.inl (1, n, .inr (.inl (flL v g n))))) else none
    | _ => none)
  | _ => none
theorem oCopy_ok {as : List Value} {w : pW} {r : Option Value} {w1 : pW} (h : oCopy as w = some (r, w1)) : pRun 187 as w r w1 := by
  unfold oCopy at h
  split at h
  · split at h
    · rename_i ha hb
      rcases pCond h with ⟨hc, h⟩ | ⟨_, h⟩
      · cases h
        simp only [Bool.and_eq_true, Bool.not_eq_true', pbl] at hc
        obtain ⟨⟨⟨⟨⟨⟨h1, h2⟩, h3⟩, h4⟩, h5⟩, h6⟩, h7⟩ := hc
        have h1 := pBeq h1
        have h2 := pBeq h2
        subst h1
        subst h2
        have g6 := pBle h6
        have g7 := pBle h7
        exact run_copy ha hb (fun e => by subst e; rw [Nat.beq_refl] at h3; cases h3) (pBle h4) (pBle h5) (by omega) (by omega)
      · cases h
    · cases h
  · cases h
theorem oFill_ok {as : List Value} {w : pW} {r : Option Value} {w1 : pW} (h : oFill as w = some (r, w1)) : pRun 356 as w r w1 := by
  unfold oFill at h
  split at h
  · split at h
    · rename_i ha
      rcases pCond h with ⟨hc, h⟩ | ⟨_, h⟩
      · cases h
        simp only [Bool.and_eq_true, pbl] at hc
        have h1 := pBeq hc.1
        subst h1
        have g6 := pBle hc.2
        exact run_fill ha (by omega)
      · cases h
    · cases h
  · cases h
theorem oFillL_ok {as : List Value} {w : pW} {r : Option Value} {w1 : pW} (h : oFillL as w = some (r, w1)) : pRun 355 as w r w1 := by
  unfold oFillL at h
  split at h
  · split at h
    · rename_i ha
      rcases pCond h with ⟨hc, h⟩ | ⟨_, h⟩
      · cases h
        simp only [Bool.and_eq_true, pbl] at hc
        have h1 := pBeq hc.1
        subst h1
        have g6 := pBle hc.2
        exact run_fillL ha (by omega)
      · cases h
    · cases h
  · cases h
def oA : pOr := fun j as w => bif Nat.beq j 187 then oCopy as w else bif Nat.beq j 356 then oFill as w else bif Nat.beq j 355 then oFillL as w else none
theorem oA_ok : pOrOK oA := by
  intro j as w r w1 h
  unfold oA at h
  rcases pCond h with ⟨hc, h⟩ | ⟨_, h⟩
  · rw [pBeq hc]; exact oCopy_ok h
  · rcases pCond h with ⟨hc, h⟩ | ⟨_, h⟩
    · rw [pBeq hc]; exact oFill_ok h
    · rcases pCond h with ⟨hc, h⟩ | ⟨_, h⟩
      · rw [pBeq hc]; exact oFillL_ok h
      · cases h
/-- worlds alike, decided -/
def pEqB1 (c c' : pCell) : Bool := match c, c' with
  | .inl (k, n, .inl f), .inl (k', n', .inl g) => Nat.beq k k' && Nat.beq n n' && Nat.rec (motive := fun _ => Bool) true (fun j ih => decide (f j = g j) && ih) n
  | .inl (k, n, .inr (.inl f)), .inl (k', n', .inr (.inl g)) => Nat.beq k k' && Nat.beq n n' && Nat.rec (motive := fun _ => Bool) true (fun j ih => decide (f j = g j) && ih) n
  | .inr o, .inr o' => Nat.beq o.1 o'.1 && decide (o.2 = o'.2)
  | _, _ => false
def pEqB : pW → pW → Bool
  | [], [] => true
  | c :: w, c' :: w' => pEqB1 c c' && pEqB w w'
  | _, _ => false
theorem allB {P : Nat → Bool} : ∀ {n : Nat}, Nat.rec (motive := fun _ => Bool) true (fun j ih => P j && ih) n = true → ∀ j, j < n → P j = true := by
  intro n
  induction n with
  | zero => intro _ j hj; omega
  | succ n ih =>
    intro h j hj
    have h : (P n && Nat.rec (motive := fun _ => Bool) true (fun j ih => P j && ih) n) = true := h
    rw [Bool.and_eq_true] at h
    rcases Nat.lt_or_ge j n with z | z
    · exact ih h.2 j z
    · have : j = n := by omega
      rw [this]
      exact h.1
theorem pEqB1_ok {c c' : pCell} (h : pEqB1 c c' = true) : pEq1 c c' := by
  rcases c with ⟨k, n, f | f | f⟩ | o <;> rcases c' with ⟨k', n', g | g | g⟩ | o' <;> first | (cases h; done) | skip
  · have h : (Nat.beq k k' && Nat.beq n n' && Nat.rec (motive := fun _ => Bool) true (fun j ih => decide (f j = g j) && ih) n) = true := h
    simp only [Bool.and_eq_true] at h
    exact ⟨pBeq h.1.1, pBeq h.1.2, fun j hj => of_decide_eq_true (allB (P := fun j => decide (f j = g j)) h.2 j hj)⟩
  · have h : (Nat.beq k k' && Nat.beq n n' && Nat.rec (motive := fun _ => Bool) true (fun j ih => decide (f j = g j) && ih) n) = true := h
    simp only [Bool.and_eq_true] at h
    exact ⟨pBeq h.1.1, pBeq h.1.2, fun j hj => of_decide_eq_true (allB (P := fun j => decide (f j = g j)) h.2 j hj)⟩
  · have h : (Nat.beq o.1 o'.1 && decide (o.2 = o'.2)) = true := h
    rw [Bool.and_eq_true] at h
    show o = o'
    obtain ⟨a, b⟩ := o
    obtain ⟨a', b'⟩ := o'
    have e1 : a = a' := pBeq h.1
    have e2 : b = b' := of_decide_eq_true h.2
    rw [e1, e2]
theorem pEqB_ok : ∀ {w w' : pW}, pEqB w w' = true → pEqW w w' := by
  intro w
  induction w with
  | nil =>
    intro w' h
    cases w' with
    | nil => exact ⟨rfl, fun k c c' h1 _ => by simp at h1⟩
    | cons c w' => cases h
  | cons c w ih =>
    intro w' h
    cases w' with
    | nil => cases h
    | cons c' w' =>
      have h : (pEqB1 c c' && pEqB w w') = true := h
      rw [Bool.and_eq_true] at h
      have h2 := ih h.2
      refine ⟨by simp [h2.1], fun k x y hx hy => ?_⟩
      cases k with
      | zero =>
        cases hx
        cases hy
        exact pEqB1_ok h.1
      | succ k => exact h2.2 k x y hx hy
