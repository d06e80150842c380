/-! SHORT CUTS FOR THE REFERENCE'S SMALL METHODS. By program (wip/tools/mk29.py). -/
def pNat (x : Int32) : Option Nat := bif decide (nI x.toNatClampNeg = x) && Nat.ble (x.toNatClampNeg + 1) 40 then some x.toNatClampNeg else none
theorem pNat_ok {x : Int32} {k : Nat} (h : pNat x = some k) : x = nI k ∧ k < 40 := by
  unfold pNat at h
  rcases pCond h with ⟨hc, h⟩ | ⟨_, h⟩
  · cases h
    rw [Bool.and_eq_true] at hc
    exact ⟨(of_decide_eq_true hc.1).symm, pBle hc.2⟩
  · cases h
/-- the reference's row behind an object -/
def pRowA (o : Nat) (w : pW) : Option (Nat → Int32) := match w[o]? with
  | some (.inr (ci, .ref c :: _)) => (match w[c]? with
    | some (.inl (k0, n, .inl f)) => bif Nat.beq ci 9 && Nat.beq k0 0 && Nat.ble 1780 n && pbl n then some f else none
    | _ => none)
  | _ => none
theorem pRowA_ok {o : Nat} {w : pW} {f : Nat → Int32} (h : pRowA o w = some f) : ∃ (c n : Nat) (fs : List Value), w[o]? = some (.inr (9, .ref c :: fs)) ∧ w[c]? = some (.inl (0, n, .inl f)) ∧ 1780 ≤ n ∧ n < 2 ^ 31 := by
  unfold pRowA at h
  split at h
  · rename_i ho
    split at h
    · rename_i hc
      rcases pCond h with ⟨hb, h⟩ | ⟨_, h⟩
      · cases h
        simp only [Bool.and_eq_true, pbl] at hb
        obtain ⟨⟨⟨h1, h2⟩, h3⟩, h4⟩ := hb
        have h1 := pBeq h1
        have h2 := pBeq h2
        subst h1
        subst h2
        have g4 := pBle h4
        exact ⟨_, _, _, ho, hc, pBle h3, by omega⟩
      · cases h
    · cases h
  · cases h
def oR1 (g : (Nat → Int32) → Nat → Value) (as : List Value) (w : pW) : Option (Option Value × pW) := match as with
  | [.ref o, .int ip] => (match pRowA o w with
    | some f => (match pNat ip with
      | some p => some (some (g f p), w)
      | _ => none)
    | none => none)
  | _ => none
theorem oR1_ok {j : Nat} {g : (Nat → Int32) → Nat → Value} (H : ∀ {w : pW} {o c n : Nat} {f : Nat → Int32} {fs : List Value}, w[o]? = some (.inr (9, .ref c :: fs)) → w[c]? = some (.inl (0, n, .inl f)) → 1780 ≤ n → n < 2 ^ 31 → ∀ {p : Nat}, p < 40 → pRun j [.ref o, .int (nI p)] w (some (g f p)) w) {as : List Value} {w : pW} {r : Option Value} {w1 : pW} (h : oR1 g as w = some (r, w1)) : pRun j as w r w1 := by
  unfold oR1 at h
  split at h
  · split at h
    · rename_i hf
      obtain ⟨c, n, fs, ho, hc, hn, hn2⟩ := pRowA_ok hf
      split at h
      · rename_i hp
        cases h
        obtain ⟨rfl, hp9⟩ := pNat_ok hp
        exact H ho hc hn hn2 hp9
      · cases h
    · cases h
  · cases h
def oR2 (g : (Nat → Int32) → Nat → Nat → Value) (as : List Value) (w : pW) : Option (Option Value × pW) := match as with
  | [.ref o, .int ip, .int iq] => (match pRowA o w with
    | some f => (match pNat ip, pNat iq with
      | some p, some q => some (some (g f p q), w)
      | _, _ => none)
    | none => none)
  | _ => none
theorem oR2_ok {j : Nat} {g : (Nat → Int32) → Nat → Nat → Value} (H : ∀ {w : pW} {o c n : Nat} {f : Nat → Int32} {fs : List Value}, w[o]? = some (.inr (9, .ref c :: fs)) → w[c]? = some (.inl (0, n, .inl f)) → 1780 ≤ n → n < 2 ^ 31 → ∀ {p q : Nat}, p < 40 → q < 40 → pRun j [.ref o, .int (nI p), .int (nI q)] w (some (g f p q)) w) {as : List Value} {w : pW} {r : Option Value} {w1 : pW} (h : oR2 g as w = some (r, w1)) : pRun j as w r w1 := by
  unfold oR2 at h
  split at h
  · split at h
    · rename_i hf
      obtain ⟨c, n, fs, ho, hc, hn, hn2⟩ := pRowA_ok hf
      split at h
      · rename_i hp hq
        cases h
        obtain ⟨rfl, hp9⟩ := pNat_ok hp
        obtain ⟨rfl, hq9⟩ := pNat_ok hq
        exact H ho hc hn hn2 hp9 hq9
      · cases h
    · cases h
  · cases h
def oR3 (g : (Nat → Int32) → Nat → Nat → Nat → Value) (as : List Value) (w : pW) : Option (Option Value × pW) := match as with
  | [.ref o, .int ip, .int iq, .int ir] => (match pRowA o w with
    | some f => (match pNat ip, pNat iq, pNat ir with
      | some p, some q, some r => some (some (g f p q r), w)
      | _, _, _ => none)
    | none => none)
  | _ => none
theorem oR3_ok {j : Nat} {g : (Nat → Int32) → Nat → Nat → Nat → Value} (H : ∀ {w : pW} {o c n : Nat} {f : Nat → Int32} {fs : List Value}, w[o]? = some (.inr (9, .ref c :: fs)) → w[c]? = some (.inl (0, n, .inl f)) → 1780 ≤ n → n < 2 ^ 31 → ∀ {p q r : Nat}, p < 40 → q < 40 → r < 40 → pRun j [.ref o, .int (nI p), .int (nI q), .int (nI r)] w (some (g f p q r)) w) {as : List Value} {w : pW} {r : Option Value} {w1 : pW} (h : oR3 g as w = some (r, w1)) : pRun j as w r w1 := by
  unfold oR3 at h
  split at h
  · split at h
    · rename_i hf
      obtain ⟨c, n, fs, ho, hc, hn, hn2⟩ := pRowA_ok hf
      split at h
      · rename_i hp hq hr
        cases h
        obtain ⟨rfl, hp9⟩ := pNat_ok hp
        obtain ⟨rfl, hq9⟩ := pNat_ok hq
        obtain ⟨rfl, hr9⟩ := pNat_ok hr
        exact H ho hc hn hn2 hp9 hq9 hr9
      · cases h
    · cases h
  · cases h
def oR4 (g : (Nat → Int32) → Nat → Nat → Nat → Nat → Value) (as : List Value) (w : pW) : Option (Option Value × pW) := match as with
  | [.ref o, .int ip, .int iq, .int ir, .int is] => (match pRowA o w with
    | some f => (match pNat ip, pNat iq, pNat ir, pNat is with
      | some p, some q, some r, some s => some (some (g f p q r s), w)
      | _, _, _, _ => none)
    | none => none)
  | _ => none
theorem oR4_ok {j : Nat} {g : (Nat → Int32) → Nat → Nat → Nat → Nat → Value} (H : ∀ {w : pW} {o c n : Nat} {f : Nat → Int32} {fs : List Value}, w[o]? = some (.inr (9, .ref c :: fs)) → w[c]? = some (.inl (0, n, .inl f)) → 1780 ≤ n → n < 2 ^ 31 → ∀ {p q r s : Nat}, p < 40 → q < 40 → r < 40 → s < 40 → pRun j [.ref o, .int (nI p), .int (nI q), .int (nI r), .int (nI s)] w (some (g f p q r s)) w) {as : List Value} {w : pW} {r : Option Value} {w1 : pW} (h : oR4 g as w = some (r, w1)) : pRun j as w r w1 := by
  unfold oR4 at h
  split at h
  · split at h
    · rename_i hf
      obtain ⟨c, n, fs, ho, hc, hn, hn2⟩ := pRowA_ok hf
      split at h
      · rename_i hp hq hr hs
        cases h
        obtain ⟨rfl, hp9⟩ := pNat_ok hp
        obtain ⟨rfl, hq9⟩ := pNat_ok hq
        obtain ⟨rfl, hr9⟩ := pNat_ok hr
        obtain ⟨rfl, hs9⟩ := pNat_ok hs
        exact H ho hc hn hn2 hp9 hq9 hr9 hs9
      · cases h
    · cases h
  · cases h
def oR2x (g : (Nat → Int32) → Nat → Nat → Int32 → Int32 → Value) (as : List Value) (w : pW) : Option (Option Value × pW) := match as with
  | [.ref o, .int ip, .int iq, .int x, .int y] => (match pRowA o w with
    | some f => (match pNat ip, pNat iq with
      | some p, some q => some (some (g f p q x y), w)
      | _, _ => none)
    | none => none)
  | _ => none
theorem oR2x_ok {j : Nat} {g : (Nat → Int32) → Nat → Nat → Int32 → Int32 → Value} (H : ∀ {w : pW} {o c n : Nat} {f : Nat → Int32} {fs : List Value}, w[o]? = some (.inr (9, .ref c :: fs)) → w[c]? = some (.inl (0, n, .inl f)) → 1780 ≤ n → n < 2 ^ 31 → ∀ {p q : Nat}, p < 40 → q < 40 → ∀ {x y : Int32}, pRun j [.ref o, .int (nI p), .int (nI q), .int x, .int y] w (some (g f p q x y)) w) {as : List Value} {w : pW} {r : Option Value} {w1 : pW} (h : oR2x g as w = some (r, w1)) : pRun j as w r w1 := by
  unfold oR2x at h
  split at h
  · split at h
    · rename_i hf
      obtain ⟨c, n, fs, ho, hc, hn, hn2⟩ := pRowA_ok hf
      split at h
      · rename_i hp hq
        cases h
        obtain ⟨rfl, hp9⟩ := pNat_ok hp
        obtain ⟨rfl, hq9⟩ := pNat_ok hq
        exact H ho hc hn hn2 hp9 hq9
      · cases h
    · cases h
  · cases h
def oM_191 (as : List Value) (w : pW) : Option (Option Value × pW) := oR1 (fun f k => .int (bI (isP f k))) as w
theorem oM_191_ok {as : List Value} {w : pW} {r : Option Value} {w1 : pW} (h : oM_191 as w = some (r, w1)) : pRun 191 as w r w1 := oR1_ok (fun {_ _ _ _ _ _} ho hc hn hn2 {_} hp => r_isPoint ho hc hn hn2 hp) h
def oM_192 (as : List Value) (w : pW) : Option (Option Value × pW) := oR1 (fun f k => .int (xF f k)) as w
theorem oM_192_ok {as : List Value} {w : pW} {r : Option Value} {w1 : pW} (h : oM_192 as w = some (r, w1)) : pRun 192 as w r w1 := oR1_ok (fun {_ _ _ _ _ _} ho hc hn hn2 {_} hp => r_xOf ho hc hn hn2 hp) h
def oM_193 (as : List Value) (w : pW) : Option (Option Value × pW) := oR1 (fun f k => .int (yF f k)) as w
theorem oM_193_ok {as : List Value} {w : pW} {r : Option Value} {w1 : pW} (h : oM_193 as w = some (r, w1)) : pRun 193 as w r w1 := oR1_ok (fun {_ _ _ _ _ _} ho hc hn hn2 {_} hp => r_yOf ho hc hn hn2 hp) h
def oM_194 (as : List Value) (w : pW) : Option (Option Value × pW) := oR1 (fun f k => .int (hF f k)) as w
theorem oM_194_ok {as : List Value} {w : pW} {r : Option Value} {w1 : pW} (h : oM_194 as w = some (r, w1)) : pRun 194 as w r w1 := oR1_ok (fun {_ _ _ _ _ _} ho hc hn hn2 {_} hp => r_highOf ho hc hn hn2 hp) h
def oM_196 (as : List Value) (w : pW) : Option (Option Value × pW) := oR2 (fun f p q => .int (fxF f p q)) as w
theorem oM_196_ok {as : List Value} {w : pW} {r : Option Value} {w1 : pW} (h : oM_196 as w = some (r, w1)) : pRun 196 as w r w1 := oR2_ok (fun {_ _ _ _ _ _} ho hc hn hn2 {_ _} hp hq => r_fixedAt ho hc hn hn2 hp hq) h
def oM_204 (as : List Value) (w : pW) : Option (Option Value × pW) := oR2 (fun f p q => .int (squareF f p q)) as w
theorem oM_204_ok {as : List Value} {w : pW} {r : Option Value} {w1 : pW} (h : oM_204 as w = some (r, w1)) : pRun 204 as w r w1 := oR2_ok (fun {_ _ _ _ _ _} ho hc hn hn2 {_ _} hp hq => r_squareOf ho hc hn hn2 hp hq) h
def oM_217 (as : List Value) (w : pW) : Option (Option Value × pW) := oR2 (fun f p q => .int (bI (decide (fxF f p q = nI 2)))) as w
theorem oM_217_ok {as : List Value} {w : pW} {r : Option Value} {w1 : pW} (h : oM_217 as w = some (r, w1)) : pRun 217 as w r w1 := oR2_ok (fun {_ _ _ _ _ _} ho hc hn hn2 {_ _} hp hq => r_isBorder ho hc hn hn2 hp hq) h
def oM_218 (as : List Value) (w : pW) : Option (Option Value × pW) := oR2 (fun f p q => .int (bI (decide (fxF f p q = nI 2) && !(decide (sideF f p q (nI 0) (nI 0) ≤ 0))))) as w
theorem oM_218_ok {as : List Value} {w : pW} {r : Option Value} {w1 : pW} (h : oM_218 as w = some (r, w1)) : pRun 218 as w r w1 := oR2_ok (fun {_ _ _ _ _ _} ho hc hn hn2 {_ _} hp hq => r_isInward ho hc hn hn2 hp hq) h
def oM_207 (as : List Value) (w : pW) : Option (Option Value × pW) := oR2 (fun f p q => .int (bI (clearF f p q))) as w
theorem oM_207_ok {as : List Value} {w : pW} {r : Option Value} {w1 : pW} (h : oM_207 as w = some (r, w1)) : pRun 207 as w r w1 := oR2_ok (fun {_ _ _ _ _ _} ho hc hn hn2 {_ _} hp hq => r_isClear ho hc hn hn2 hp hq) h
def oM_208 (as : List Value) (w : pW) : Option (Option Value × pW) := oR2 (fun f p q => .int (bI (uncutF f p q))) as w
theorem oM_208_ok {as : List Value} {w : pW} {r : Option Value} {w1 : pW} (h : oM_208 as w = some (r, w1)) : pRun 208 as w r w1 := oR2_ok (fun {_ _ _ _ _ _} ho hc hn hn2 {_ _} hp hq => r_isUncut ho hc hn hn2 hp hq) h
def oM_209 (as : List Value) (w : pW) : Option (Option Value × pW) := oR2 (fun f p q => .int (bI (seesF f p q))) as w
theorem oM_209_ok {as : List Value} {w : pW} {r : Option Value} {w1 : pW} (h : oM_209 as w = some (r, w1)) : pRun 209 as w r w1 := oR2_ok (fun {_ _ _ _ _ _} ho hc hn hn2 {_ _} hp hq => r_seesNow ho hc hn hn2 hp hq) h
def oM_202 (as : List Value) (w : pW) : Option (Option Value × pW) := oR3 (fun f p q r => .int (turnF f p q r)) as w
theorem oM_202_ok {as : List Value} {w : pW} {r : Option Value} {w1 : pW} (h : oM_202 as w = some (r, w1)) : pRun 202 as w r w1 := oR3_ok (fun {_ _ _ _ _ _} ho hc hn hn2 {_ _ _} hp hq hr => r_turnOf ho hc hn hn2 hp hq hr) h
def oM_206 (as : List Value) (w : pW) : Option (Option Value × pW) := oR4 (fun f p q r s => .int (bI (crossF f p q r s))) as w
theorem oM_206_ok {as : List Value} {w : pW} {r : Option Value} {w1 : pW} (h : oM_206 as w = some (r, w1)) : pRun 206 as w r w1 := oR4_ok (fun {_ _ _ _ _ _} ho hc hn hn2 {_ _ _ _} hp hq hr hs => r_crosses ho hc hn hn2 hp hq hr hs) h
def oM_201 (as : List Value) (w : pW) : Option (Option Value × pW) := oR2x (fun f p q x y => .int (sideF f p q x y)) as w
theorem oM_201_ok {as : List Value} {w : pW} {r : Option Value} {w1 : pW} (h : oM_201 as w = some (r, w1)) : pRun 201 as w r w1 := oR2x_ok (fun {_ _ _ _ _ _} ho hc hn hn2 {_ _} hp hq => r_sideOf ho hc hn hn2 hp hq) h
def oM_203 (as : List Value) (w : pW) : Option (Option Value × pW) := oR2x (fun f p q x y => .int (bI (betwF f p q x y))) as w
theorem oM_203_ok {as : List Value} {w : pW} {r : Option Value} {w1 : pW} (h : oM_203 as w = some (r, w1)) : pRun 203 as w r w1 := oR2x_ok (fun {_ _ _ _ _ _} ho hc hn hn2 {_ _} hp hq => r_isBetween ho hc hn hn2 hp hq) h
/-- all the short cuts so far -/
def oB : pOr := fun j as w => bif Nat.beq j 191 then oM_191 as w else bif Nat.beq j 192 then oM_192 as w else bif Nat.beq j 193 then oM_193 as w else bif Nat.beq j 194 then oM_194 as w else bif Nat.beq j 196 then oM_196 as w else bif Nat.beq j 204 then oM_204 as w else bif Nat.beq j 217 then oM_217 as w else bif Nat.beq j 218 then oM_218 as w else bif Nat.beq j 207 then oM_207 as w else bif Nat.beq j 208 then oM_208 as w else bif Nat.beq j 209 then oM_209 as w else bif Nat.beq j 202 then oM_202 as w else bif Nat.beq j 206 then oM_206 as w else bif Nat.beq j 201 then oM_201 as w else bif Nat.beq j 203 then oM_203 as w else oA j as w
theorem oB_ok : pOrOK oB := by
  intro j as w r w1 h
  unfold oB at h
  rcases pCond h with ⟨hc, h⟩ | ⟨_, h⟩
  · rw [pBeq hc]; exact oM_191_ok h
  rcases pCond h with ⟨hc, h⟩ | ⟨_, h⟩
  · rw [pBeq hc]; exact oM_192_ok h
  rcases pCond h with ⟨hc, h⟩ | ⟨_, h⟩
  · rw [pBeq hc]; exact oM_193_ok h
  rcases pCond h with ⟨hc, h⟩ | ⟨_, h⟩
  · rw [pBeq hc]; exact oM_194_ok h
  rcases pCond h with ⟨hc, h⟩ | ⟨_, h⟩
  · rw [pBeq hc]; exact oM_196_ok h
  rcases pCond h with ⟨hc, h⟩ | ⟨_, h⟩
  · rw [pBeq hc]; exact oM_204_ok h
  rcases pCond h with ⟨hc, h⟩ | ⟨_, h⟩
  · rw [pBeq hc]; exact oM_217_ok h
  rcases pCond h with ⟨hc, h⟩ | ⟨_, h⟩
  · rw [pBeq hc]; exact oM_218_ok h
  rcases pCond h with ⟨hc, h⟩ | ⟨_, h⟩
  · rw [pBeq hc]; exact oM_207_ok h
  rcases pCond h with ⟨hc, h⟩ | ⟨_, h⟩
  · rw [pBeq hc]; exact oM_208_ok h
  rcases pCond h with ⟨hc, h⟩ | ⟨_, h⟩
  · rw [pBeq hc]; exact oM_209_ok h
  rcases pCond h with ⟨hc, h⟩ | ⟨_, h⟩
  · rw [pBeq hc]; exact oM_202_ok h
  rcases pCond h with ⟨hc, h⟩ | ⟨_, h⟩
  · rw [pBeq hc]; exact oM_206_ok h
  rcases pCond h with ⟨hc, h⟩ | ⟨_, h⟩
  · rw [pBeq hc]; exact oM_201_ok h
  rcases pCond h with ⟨hc, h⟩ | ⟨_, h⟩
  · rw [pBeq hc]; exact oM_203_ok h
  exact oA_ok _ _ _ _ _ h
