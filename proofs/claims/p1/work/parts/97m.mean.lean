/-! THE MEAN, run through by the plain machine with short cuts. By hand. -/
/-- the reference's row of triangles left of edges -/
def pRowL (o : Nat) (w : pW) : Option (Nat → Int32) := match w[o]? with
  | some (.inr (ci, fs)) => (match (fs : List Value)[3]? with
    | some (Value.ref c) => (match w[c]? with
      | some (.inl (k0, n, .inl f)) => bif Nat.beq ci 9 && (Nat.beq k0 0 && (Nat.ble 1600 n && pbl n)) then some f else none
      | _ => none)
    | _ => none)
  | _ => none
theorem pRowL_ok {o : Nat} {w : pW} {f : Nat → Int32} (h : pRowL o w = some f) : ∃ (c n : Nat) (fs : List Value), w[o]? = some (.inr (9, fs)) ∧ fs[3]? = some (.ref c) ∧ w[c]? = some (.inl (0, n, .inl f)) ∧ 1600 ≤ n ∧ n < 2 ^ 31 := by
  unfold pRowL at h
  split at h
  · rename_i ho
    split at h
    · rename_i hf
      split at h
      · rename_i hc
        rcases pCond h with ⟨hb, h⟩ | ⟨_, h⟩
        · cases h
          simp only [Bool.and_eq_true, pbl] at hb
          obtain ⟨h1, h2, h3, h4⟩ := hb
          have h1 := pBeq h1
          have h2 := pBeq h2
          subst h1
          subst h2
          have g4 := pBle h4
          exact ⟨_, _, _, ho, hf, hc, pBle h3, by omega⟩
        · cases h
      · cases h
    · cases h
  · cases h
def oM_213 (as : List Value) (w : pW) : Option (Option Value × pW) := match as with
  | [.ref o, .int ip, .int iq] => (match pRowL o w with
    | some f => (match pNat ip, pNat iq with
      | some p, some q => some (some (.int (bI (edgF f p q))), w)
      | _, _ => none)
    | none => none)
  | _ => none
theorem oM_213_ok {as : List Value} {w : pW} {r : Option Value} {w1 : pW} (h : oM_213 as w = some (r, w1)) : pRun 213 as w r w1 := by
  unfold oM_213 at h
  split at h
  · split at h
    · rename_i f hf
      split at h
      · rename_i p q hp hq
        cases h
        obtain ⟨c, n, fs, h1, h2, h3, h4, h5⟩ := pRowL_ok hf
        obtain ⟨e1, l1⟩ := pNat_ok hp
        obtain ⟨e2, l2⟩ := pNat_ok hq
        rw [e1, e2]
        exact r_isEdgeNowG h1 h2 h3 h4 h5 l1 l2
      · cases h
    · cases h
  · cases h
def oD : pOr := fun j as w => bif Nat.beq j 213 then oM_213 as w else oC j as w
theorem oD_ok : pOrOK oD := by
  intro j as w r w1 h
  have h : (bif Nat.beq j 213 then oM_213 as w else oC j as w) = some (r, w1) := h
  rcases pCond h with ⟨hc, h⟩ | ⟨_, h⟩
  · rw [pBeq hc]
    exact oM_213_ok h
  · exact oC_ok _ _ _ _ _ h
noncomputable def chkLD (n : Nat) (jx jm : Nat) (as : List Value) : Bool := match pGoX oD n jx (0, lv_args 0 (.ref 0 :: as), [], w0e) with
  | some (some (.long v), w1) => (match pGoX oD n jm (0, lv_args 0 (.ref 57 :: as), [], w1) with
    | some (some (.long v'), w2) => decide (v = v') && zOK w2
    | _ => false)
  | _ => false
theorem chkLD_ok {n jx jm : Nat} {as : List Value} (h : chkLD n jx jm as = true) : lOweL 57 w0e jx jm as := by
  unfold chkLD at h
  split at h
  · rename_i v w1 h1
    split at h
    · rename_i v' w2 h2
      rw [Bool.and_eq_true] at h
      have e := of_decide_eq_true h.1
      obtain ⟨z1, z2⟩ := zOK_ok h.2
      subst e
      exact ⟨v, w1, w2, pGoX_ok oD_ok _ _ _ _ _ h1, pGoX_ok oD_ok _ _ _ _ _ h2, z1, z2⟩
    · cases h
  · cases h
set_option maxRecDepth 1000000 in
theorem o_56 (a : Nat → Int32) : lOweK 57 w0e 56 a := by
  show lOweL 57 w0e 161 340 []
  exact chkLD_ok (n := 100000) (by decide +kernel)
