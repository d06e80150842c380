/-! SHORT CUTS THAT HOLD UP TO WHAT LIES BEYOND THE ENDS OF ARRAYS. -/
theorem pEq1.tr {c1 c2 c3 : pCell} (h : pEq1 c1 c2) (g : pEq1 c2 c3) : pEq1 c1 c3 := by
  rcases c1 with ⟨k, n, f | f | f⟩ | o
  · obtain ⟨f2, rfl, h2⟩ := h.int
    obtain ⟨f3, rfl, h3⟩ := g.int
    exact pEq1.mkI (fun j hj => (h2 j hj).trans (h3 j hj))
  · obtain ⟨f2, rfl, h2⟩ := h.long
    obtain ⟨f3, rfl, h3⟩ := g.long
    exact pEq1.mkL (fun j hj => (h2 j hj).trans (h3 j hj))
  · rcases c2 with ⟨k', n', g2 | g2 | g2⟩ | o'
    · exact h.elim
    · exact h.elim
    · exact h.elim
    · exact h.elim
  · have e := h.obj
    subst e
    exact g
theorem pEqW.tr {w1 w2 w3 : pW} (h : pEqW w1 w2) (g : pEqW w2 w3) : pEqW w1 w3 := by
  refine ⟨h.1.trans g.1, fun k a c ha hc => ?_⟩
  obtain ⟨b, hb, h1⟩ := h.get ha
  exact h1.tr (g.2 k b c hb hc)
theorem pRest_e {i pc : Nat} {lv : pLv} {st : List Value} {w w' : pW} {r : Option Value} {w1 : pW} (H : pEqW w w') (h : pRest i (pc, lv, st, w) r w1) : ∃ w1', pRest i (pc, lv, st, w') r w1' ∧ pEqW w1 w1' := by
  obtain ⟨n, h⟩ := h
  obtain ⟨w1', h1, h2⟩ := pGo_e n i pc lv st w w' r w1 H h
  exact ⟨w1', ⟨n, h1⟩, h2⟩
/-- the worlds that a run makes are fit to be compared -/
def pFitW (w : pW) : Prop := ∀ (k : Nat) (c : pCell), w[k]? = some c → pEq1 c c
theorem pEqW.rf {w : pW} (h : pFitW w) : pEqW w w := ⟨rfl, fun k c c' h1 h2 => by rw [h1] at h2; cases h2; exact h k c h1⟩
theorem pEqW.fit {w w' : pW} (h : pEqW w w') : pFitW w := fun k c hc => by
  obtain ⟨c', h1, h2⟩ := h.get hc
  rcases c with ⟨k, n, f | f | f⟩ | o
  · exact pEq1.mkI (fun _ _ => rfl)
  · exact pEq1.mkL (fun _ _ => rfl)
  · rcases c' with ⟨k', n', g2 | g2 | g2⟩ | o'
    · exact h2.elim
    · exact h2.elim
    · exact h2.elim
    · exact h2.elim
  · exact pEq1.mkO
def pOrOKe (O : pOr) : Prop := ∀ (j : Nat) (as : List Value) (w : pW) (r : Option Value) (w1 : pW), O j as w = some (r, w1) → ∃ w1', pRun j as w r w1' ∧ pEqW w1 w1'
theorem pGoX_oke {O : pOr} (hO : pOrOKe O) : ∀ (n i : Nat) (q : pSt) (r : Option Value) (w1 : pW), pFitW q.2.2.2 → pGoX O n i q = some (r, w1) → ∃ w1', pRest i q r w1' ∧ pEqW w1 w1' := by
  intro n
  induction n with
  | zero => intro i q r w1 _ h; cases h
  | succ n ih =>
    intro i q r w1 hf h
    obtain ⟨pc, lv, st, w⟩ := q
    have hf : pFitW w := hf
    have h : pStepX O (pGoX O n) i (pc, lv, st, w) = some (r, w1) := h
    unfold pStepX at h
    split at h
    · cases h
    · rename_i e hI
      obtain ⟨ins, dt⟩ := e
      unfold pThenX at h
      split at h
      · cases h
      · rename_i q1 h1
        have hf1 : pFitW q1.2.2.2 := by
          obtain ⟨o', h2, h3⟩ := pS1_e (pEqW.rf hf) h1
          have e9 : o' = .inl q1 := Option.some.inj (h2.symm.trans h1)
          subst e9
          exact h3.2.2.2.fit
        obtain ⟨w1', g1, g2⟩ := ih _ _ _ _ hf1 h
        exact ⟨w1', pr_go hI h1 g1, g2⟩
      · rename_i j as rest h1
        split at h
        · cases h
        · rename_i r2 w2 h2
          have hr : ∃ w2', pRun j as w r2 w2' ∧ pEqW w2 w2' := by
            split at h2
            · rename_i x hx
              cases h2
              exact hO _ _ _ _ _ hx
            · exact ih _ _ _ _ hf h2
          obtain ⟨w2', g1, g2⟩ := hr
          obtain ⟨w1', g3, g4⟩ := ih i (pc + 3, lv, r2.toList ++ rest, w2) _ _ g2.fit h
          obtain ⟨w1'', g5, g6⟩ := pRest_e g2 g3
          exact ⟨w1'', pr_call hI h1 g1 g5, g4.tr g6⟩
      · rename_i r1 h1
        cases h
        exact ⟨w, pr_ret hI h1, pEqW.rf hf⟩
