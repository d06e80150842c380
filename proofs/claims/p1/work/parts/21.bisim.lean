/-! Worlds that differ beyond the ends of arrays alone: what runs in one runs in the other. -/
def pEq1 (c c' : pCell) : Prop := match c, c' with
  | .inl (k, n, .inl f), .inl (k', n', .inl g) => k = k' ∧ n = n' ∧ ∀ j, j < n → f j = g j
  | .inl (k, n, .inr (.inl f)), .inl (k', n', .inr (.inl g)) => k = k' ∧ n = n' ∧ ∀ j, j < n → f j = g j
  | .inr o, .inr o' => o = o'
  | _, _ => False
def pEqW (w w' : pW) : Prop := w.length = w'.length ∧ ∀ (k : Nat) (c c' : pCell), w[k]? = some c → w'[k]? = some c' → pEq1 c c'
def pEqO (o o' : pOut) : Prop := match o, o' with
  | .inl q, .inl q' => q.1 = q'.1 ∧ q.2.1 = q'.2.1 ∧ q.2.2.1 = q'.2.2.1 ∧ pEqW q.2.2.2 q'.2.2.2
  | .inr y, .inr y' => y = y'
  | _, _ => False
theorem pEqO.go {pc : Nat} {lv : pLv} {st : List Value} {w w' : pW} (H : pEqW w w') : pEqO (.inl (pc, lv, st, w)) (.inl (pc, lv, st, w')) := ⟨rfl, rfl, rfl, H⟩
theorem pEqO.mk {pc : Nat} {lv : pLv} {st st' : List Value} {w w' : pW} (h : st = st') (H : pEqW w w') : pEqO (.inl (pc, lv, st, w)) (.inl (pc, lv, st', w')) := ⟨rfl, rfl, h, H⟩
theorem pEqO.out {y : (Nat × List Value × List Value) ⊕ Option Value} : pEqO (.inr y) (.inr y) := rfl
theorem pEqW.get {w w' : pW} (H : pEqW w w') {a : Nat} {c : pCell} (h : w[a]? = some c) : ∃ c', w'[a]? = some c' ∧ pEq1 c c' := by
  have hlt := (List.getElem?_eq_some_iff.mp h).1
  have h2 := List.getElem?_eq_getElem (l := w') (i := a) (by rw [← H.1]; exact hlt)
  exact ⟨_, h2, H.2 a _ _ h h2⟩
theorem pEqW.set {w w' : pW} (H : pEqW w w') {a : Nat} {c c' : pCell} (h : pEq1 c c') : pEqW (w.set a c) (w'.set a c') := by
  refine ⟨by rw [List.length_set, List.length_set]; exact H.1, fun k x y hx hy => ?_⟩
  rw [List.getElem?_set] at hx hy
  by_cases e : a = k
  · subst e
    rw [if_pos rfl] at hx hy
    split at hx
    · cases hx
      split at hy
      · cases hy
        exact h
      · cases hy
    · cases hx
  · rw [if_neg e] at hx hy
    exact H.2 k x y hx hy
theorem pEqW.app {w w' : pW} (H : pEqW w w') {c c' : pCell} (h : pEq1 c c') : pEqW (w ++ [c]) (w' ++ [c']) := by
  refine ⟨by simp [H.1], fun k x y hx hy => ?_⟩
  rcases Nat.lt_or_ge k w.length with z | z
  · rw [List.getElem?_append_left z] at hx
    rw [List.getElem?_append_left (by rw [← H.1]; exact z)] at hy
    exact H.2 k x y hx hy
  · rw [List.getElem?_append_right z] at hx
    rw [List.getElem?_append_right (by rw [← H.1]; exact z)] at hy
    rw [← H.1] at hy
    cases hk : k - w.length with
    | zero =>
      rw [hk] at hx hy
      cases hx
      cases hy
      exact h
    | succ k2 =>
      rw [hk] at hx
      simp at hx
theorem pEq1.int {k n : Nat} {f : Nat → Int32} {c' : pCell} (h : pEq1 (.inl (k, n, .inl f)) c') : ∃ g, c' = .inl (k, n, .inl g) ∧ ∀ j, j < n → f j = g j := by
  rcases c' with ⟨k', n', g | g | g⟩ | o
  · obtain ⟨rfl, rfl, h⟩ := h
    exact ⟨g, rfl, h⟩
  · exact h.elim
  · exact h.elim
  · exact h.elim
theorem pEq1.long {k n : Nat} {f : Nat → Int64} {c' : pCell} (h : pEq1 (.inl (k, n, .inr (.inl f))) c') : ∃ g, c' = .inl (k, n, .inr (.inl g)) ∧ ∀ j, j < n → f j = g j := by
  rcases c' with ⟨k', n', g | g | g⟩ | o
  · exact h.elim
  · obtain ⟨rfl, rfl, h⟩ := h
    exact ⟨g, rfl, h⟩
  · exact h.elim
  · exact h.elim
theorem pEq1.obj {o : Nat × List Value} {c' : pCell} (h : pEq1 (.inr o) c') : c' = .inr o := by
  rcases c' with ⟨k', n', g | g | g⟩ | o'
  · exact h.elim
  · exact h.elim
  · exact h.elim
  · have : o = o' := h
    rw [this]
theorem pEq1.mkO {o : Nat × List Value} : pEq1 (.inr o) (.inr o) := rfl
theorem pEq1.mkI {k n : Nat} {f g : Nat → Int32} (h : ∀ j, j < n → f j = g j) : pEq1 (.inl (k, n, .inl f)) (.inl (k, n, .inl g)) := ⟨rfl, rfl, h⟩
theorem pEq1.mkL {k n : Nat} {f g : Nat → Int64} (h : ∀ j, j < n → f j = g j) : pEq1 (.inl (k, n, .inr (.inl f))) (.inl (k, n, .inr (.inl g))) := ⟨rfl, rfl, h⟩
theorem upd_eq {f g : Nat → Int32} {n k : Nat} {x : Int32} (h : ∀ j, j < n → f j = g j) : ∀ j, j < n → upd f k x j = upd g k x j := fun j hj => by
  unfold upd
  rw [h j hj]
theorem updL_eq {f g : Nat → Int64} {n k : Nat} {x : Int64} (h : ∀ j, j < n → f j = g j) : ∀ j, j < n → vp_updL f k x j = vp_updL g k x j := fun j hj => by
  unfold vp_updL
  rw [h j hj]
theorem cpy_eq {α : Type} {f g f' g' : Nat → α} {n0 n1 sp dp n : Nat} (h0 : ∀ j, j < n0 → f j = f' j) (h1 : ∀ j, j < n1 → g j = g' j) (hs : sp + n ≤ n0) : ∀ j, j < n1 → va_cpy f g sp dp n j = va_cpy f' g' sp dp n j := fun j hj => by
  unfold va_cpy
  split
  · exact h0 _ (by omega)
  · exact h1 j hj
theorem pEq1.rf {c : pCell} (h : (match c with
  | .inl (_, _, .inr (.inr _)) => False
  | _ => True)) : pEq1 c c := by
  rcases c with ⟨k', n', g | g | g⟩ | o'
  · exact ⟨rfl, rfl, fun _ _ => rfl⟩
  · exact ⟨rfl, rfl, fun _ _ => rfl⟩
  · exact h.elim
  · exact rfl
theorem pGo1_e {pc : Nat} {lv : pLv} {st : List Value} {w : pW} {w' : pW} {o : pOut} (H : pEqW w w') (h : pGo1 pc lv st w = some o) : ∃ o', pGo1 pc lv st w' = some o' ∧ pEqO o o' := by
  unfold pGo1 at h ⊢
  cases h
  exact ⟨_, rfl, pEqO.go H⟩
theorem pOK8_e {pc : Nat} {lv : pLv} {st : List Value} {w : pW} {w' : pW} {o : pOut} (H : pEqW w w') (h : pOK8 pc lv st w = some o) : ∃ o', pOK8 pc lv st w' = some o' ∧ pEqO o o' := by
  unfold pOK8 pGo1 at h
  rcases pCond h with ⟨hc, h⟩ | ⟨hc, h⟩
  · cases h; exact ⟨_, by unfold pOK8 pGo1; rw [hc]; rfl, pEqO.go H⟩
  · cases h
theorem pBr_e {pc : Nat} {dt : List Nat} {lv : pLv} {st : List Value} {w : pW} {c : Bool} {w' : pW} {o : pOut} (H : pEqW w w') (h : pBr pc dt lv st w c = some o) : ∃ o', pBr pc dt lv st w' c = some o' ∧ pEqO o o' := by
  unfold pBr pGo1 at h
  split at h
  · rcases pCond h with ⟨hc, h⟩ | ⟨hc, h⟩ <;> (cases h; exact ⟨_, by unfold pBr pGo1; rw [hc]; rfl, pEqO.go H⟩)
  · cases h
theorem pLd1_e {pc : Nat} {lv : pLv} {st : List Value} {w : pW} {v : Option Value} {w' : pW} {o : pOut} (H : pEqW w w') (h : pLd1 pc lv st w v = some o) : ∃ o', pLd1 pc lv st w' v = some o' ∧ pEqO o o' := by
  unfold pLd1 pGo1 at h
  split at h
  · cases h; exact ⟨_, rfl, pEqO.go H⟩
  · cases h
theorem pLdL_e {pc : Nat} {lv : pLv} {st : List Value} {w : pW} {v : Option Value} {w' : pW} {o : pOut} (H : pEqW w w') (h : pLdL pc lv st w v = some o) : ∃ o', pLdL pc lv st w' v = some o' ∧ pEqO o o' := by
  unfold pLdL pGo1 at h
  split at h
  · cases h; exact ⟨_, rfl, pEqO.go H⟩
  · cases h
theorem pLdD_e {pc : Nat} {lv : pLv} {st : List Value} {w : pW} {v : Option Value} {w' : pW} {o : pOut} (H : pEqW w w') (h : pLdD pc lv st w v = some o) : ∃ o', pLdD pc lv st w' v = some o' ∧ pEqO o o' := by
  unfold pLdD pGo1 at h
  split at h
  · cases h; exact ⟨_, rfl, pEqO.go H⟩
  · cases h
theorem pLdA_e {pc : Nat} {lv : pLv} {st : List Value} {w : pW} {v : Option Value} {w' : pW} {o : pOut} (H : pEqW w w') (h : pLdA pc lv st w v = some o) : ∃ o', pLdA pc lv st w' v = some o' ∧ pEqO o o' := by
  unfold pLdA pGo1 at h
  split at h
  · cases h; exact ⟨_, rfl, pEqO.go H⟩
  · cases h
theorem pSt1_e {pc : Nat} {lv : pLv} {i : Nat} {st : List Value} {w : pW} {w' : pW} {o : pOut} (H : pEqW w w') (h : pSt1 pc lv i st w = some o) : ∃ o', pSt1 pc lv i st w' = some o' ∧ pEqO o o' := by
  unfold pSt1 pGo1 at h
  repeat' (first | (cases h; done) | (cases h; exact ⟨_, rfl, pEqO.go H⟩) | split at h)
theorem pStL_e {pc : Nat} {lv : pLv} {i : Nat} {st : List Value} {w : pW} {w' : pW} {o : pOut} (H : pEqW w w') (h : pStL pc lv i st w = some o) : ∃ o', pStL pc lv i st w' = some o' ∧ pEqO o o' := by
  unfold pStL pGo1 at h
  repeat' (first | (cases h; done) | (cases h; exact ⟨_, rfl, pEqO.go H⟩) | split at h)
theorem pStD_e {pc : Nat} {lv : pLv} {i : Nat} {st : List Value} {w : pW} {w' : pW} {o : pOut} (H : pEqW w w') (h : pStD pc lv i st w = some o) : ∃ o', pStD pc lv i st w' = some o' ∧ pEqO o o' := by
  unfold pStD pGo1 at h
  repeat' (first | (cases h; done) | (cases h; exact ⟨_, rfl, pEqO.go H⟩) | split at h)
theorem pStA_e {pc : Nat} {lv : pLv} {i : Nat} {st : List Value} {w : pW} {w' : pW} {o : pOut} (H : pEqW w w') (h : pStA pc lv i st w = some o) : ∃ o', pStA pc lv i st w' = some o' ∧ pEqO o o' := by
  unfold pStA pGo1 at h
  repeat' (first | (cases h; done) | (cases h; exact ⟨_, rfl, pEqO.go H⟩) | split at h)
theorem pII_e {pc : Nat} {lv : pLv} {st : List Value} {w : pW} {f : Int32 → Int32 → Value} {w' : pW} {o : pOut} (H : pEqW w w') (h : pII pc lv st w f = some o) : ∃ o', pII pc lv st w' f = some o' ∧ pEqO o o' := by
  unfold pII pGo1 at h
  repeat' (first | (cases h; done) | (cases h; exact ⟨_, rfl, pEqO.go H⟩) | split at h)
theorem pLL_e {pc : Nat} {lv : pLv} {st : List Value} {w : pW} {f : Int64 → Int64 → Value} {w' : pW} {o : pOut} (H : pEqW w w') (h : pLL pc lv st w f = some o) : ∃ o', pLL pc lv st w' f = some o' ∧ pEqO o o' := by
  unfold pLL pGo1 at h
  repeat' (first | (cases h; done) | (cases h; exact ⟨_, rfl, pEqO.go H⟩) | split at h)
theorem pLI_e {pc : Nat} {lv : pLv} {st : List Value} {w : pW} {f : Int64 → Int32 → Value} {w' : pW} {o : pOut} (H : pEqW w w') (h : pLI pc lv st w f = some o) : ∃ o', pLI pc lv st w' f = some o' ∧ pEqO o o' := by
  unfold pLI pGo1 at h
  repeat' (first | (cases h; done) | (cases h; exact ⟨_, rfl, pEqO.go H⟩) | split at h)
theorem pDD_e {pc : Nat} {lv : pLv} {st : List Value} {w : pW} {f : UInt64 → UInt64 → Value} {w' : pW} {o : pOut} (H : pEqW w w') (h : pDD pc lv st w f = some o) : ∃ o', pDD pc lv st w' f = some o' ∧ pEqO o o' := by
  unfold pDD pGo1 at h
  repeat' (first | (cases h; done) | (cases h; exact ⟨_, rfl, pEqO.go H⟩) | split at h)
theorem pI1_e {pc : Nat} {lv : pLv} {st : List Value} {w : pW} {f : Int32 → Value} {w' : pW} {o : pOut} (H : pEqW w w') (h : pI1 pc lv st w f = some o) : ∃ o', pI1 pc lv st w' f = some o' ∧ pEqO o o' := by
  unfold pI1 pGo1 at h
  repeat' (first | (cases h; done) | (cases h; exact ⟨_, rfl, pEqO.go H⟩) | split at h)
theorem pL1_e {pc : Nat} {lv : pLv} {st : List Value} {w : pW} {f : Int64 → Value} {w' : pW} {o : pOut} (H : pEqW w w') (h : pL1 pc lv st w f = some o) : ∃ o', pL1 pc lv st w' f = some o' ∧ pEqO o o' := by
  unfold pL1 pGo1 at h
  repeat' (first | (cases h; done) | (cases h; exact ⟨_, rfl, pEqO.go H⟩) | split at h)
theorem pD1_e {pc : Nat} {lv : pLv} {st : List Value} {w : pW} {f : UInt64 → Value} {w' : pW} {o : pOut} (H : pEqW w w') (h : pD1 pc lv st w f = some o) : ∃ o', pD1 pc lv st w' f = some o' ∧ pEqO o o' := by
  unfold pD1 pGo1 at h
  repeat' (first | (cases h; done) | (cases h; exact ⟨_, rfl, pEqO.go H⟩) | split at h)
theorem pDup_e {pc : Nat} {lv : pLv} {st : List Value} {w : pW} {w' : pW} {o : pOut} (H : pEqW w w') (h : pDup pc lv st w = some o) : ∃ o', pDup pc lv st w' = some o' ∧ pEqO o o' := by
  unfold pDup pGo1 at h
  split at h
  · rcases pCond h with ⟨hc, h⟩ | ⟨hc, h⟩
    · cases h; exact ⟨_, by unfold pDup pGo1; simp only [hc, cond_true], pEqO.go H⟩
    · cases h
  · cases h
theorem pPop_e {pc : Nat} {lv : pLv} {st : List Value} {w : pW} {w' : pW} {o : pOut} (H : pEqW w w') (h : pPop pc lv st w = some o) : ∃ o', pPop pc lv st w' = some o' ∧ pEqO o o' := by
  unfold pPop pGo1 at h
  split at h
  · rcases pCond h with ⟨hc, h⟩ | ⟨hc, h⟩
    · cases h; exact ⟨_, by unfold pPop pGo1; simp only [hc, cond_true], pEqO.go H⟩
    · cases h
  · cases h
theorem pDup2_e {pc : Nat} {lv : pLv} {st : List Value} {w : pW} {w' : pW} {o : pOut} (H : pEqW w w') (h : pDup2 pc lv st w = some o) : ∃ o', pDup2 pc lv st w' = some o' ∧ pEqO o o' := by
  unfold pDup2 pGo1 at h
  split at h
  · rcases pCond h with ⟨hc, h⟩ | ⟨hc, h⟩
    · cases h; exact ⟨_, by unfold pDup2 pGo1; simp only [hc, cond_true], pEqO.go H⟩
    · split at h
      · rcases pCond h with ⟨hc2, h⟩ | ⟨hc2, h⟩
        · cases h; exact ⟨_, by unfold pDup2 pGo1; simp only [hc, hc2, cond_true, cond_false], pEqO.go H⟩
        · cases h
      · cases h
  · cases h
theorem pDiv_e {pc : Nat} {lv : pLv} {st : List Value} {w : pW} {f : Int32 → Int32 → Int32} {w' : pW} {o : pOut} (H : pEqW w w') (h : pDiv pc lv st w f = some o) : ∃ o', pDiv pc lv st w' f = some o' ∧ pEqO o o' := by
  unfold pDiv pGo1 at h
  split at h
  · rcases pCond h with ⟨hc, h⟩ | ⟨hc, h⟩
    · cases h
    · cases h; exact ⟨_, by unfold pDiv pGo1; simp only [hc, cond_false], pEqO.go H⟩
  · cases h
theorem pDivL_e {pc : Nat} {lv : pLv} {st : List Value} {w : pW} {f : Int64 → Int64 → Int64} {w' : pW} {o : pOut} (H : pEqW w w') (h : pDivL pc lv st w f = some o) : ∃ o', pDivL pc lv st w' f = some o' ∧ pEqO o o' := by
  unfold pDivL pGo1 at h
  split at h
  · rcases pCond h with ⟨hc, h⟩ | ⟨hc, h⟩
    · cases h
    · cases h; exact ⟨_, by unfold pDivL pGo1; simp only [hc, cond_false], pEqO.go H⟩
  · cases h
theorem pDivD_e {pc : Nat} {lv : pLv} {st : List Value} {w : pW} {f : UInt64 → UInt64 → UInt64} {w' : pW} {o : pOut} (H : pEqW w w') (h : pDivD pc lv st w f = some o) : ∃ o', pDivD pc lv st w' f = some o' ∧ pEqO o o' := by
  unfold pDivD pGo1 at h
  split at h
  · rcases pCond h with ⟨hc, h⟩ | ⟨hc, h⟩
    · cases h; exact ⟨_, by unfold pDivD pGo1; simp only [hc, cond_true], pEqO.go H⟩
    · cases h
  · cases h
theorem pK1_e {pc : Nat} {dt : List Nat} {lv : pLv} {st : List Value} {w : pW} {w' : pW} {o : pOut} (H : pEqW w w') (h : pK1 pc dt lv st w = some o) : ∃ o', pK1 pc dt lv st w' = some o' ∧ pEqO o o' := by
  unfold pK1 pGo1 at h
  repeat' (first | (cases h; done) | (cases h; exact ⟨_, rfl, pEqO.go H⟩) | split at h)
theorem pLdc_e {pc : Nat} {dt : List Nat} {lv : pLv} {st : List Value} {w : pW} {w' : pW} {o : pOut} (H : pEqW w w') (h : pLdc pc dt lv st w = some o) : ∃ o', pLdc pc dt lv st w' = some o' ∧ pEqO o o' := by
  unfold pLdc pGo1 at h
  repeat' (first | (cases h; done) | (cases h; exact ⟨_, rfl, pEqO.go H⟩) | split at h)
theorem pLdc2_e {pc : Nat} {dt : List Nat} {lv : pLv} {st : List Value} {w : pW} {w' : pW} {o : pOut} (H : pEqW w w') (h : pLdc2 pc dt lv st w = some o) : ∃ o', pLdc2 pc dt lv st w' = some o' ∧ pEqO o o' := by
  unfold pLdc2 pGo1 at h
  repeat' (first | (cases h; done) | (cases h; exact ⟨_, rfl, pEqO.go H⟩) | split at h)
theorem pGoto_e {dt : List Nat} {lv : pLv} {st : List Value} {w : pW} {w' : pW} {o : pOut} (H : pEqW w w') (h : pGoto dt lv st w = some o) : ∃ o', pGoto dt lv st w' = some o' ∧ pEqO o o' := by
  unfold pGoto pGo1 at h
  repeat' (first | (cases h; done) | (cases h; exact ⟨_, rfl, pEqO.go H⟩) | split at h)
theorem pInc_e {pc : Nat} {lv : pLv} {k : Nat} {n : Int} {st : List Value} {w : pW} {w' : pW} {o : pOut} (H : pEqW w w') (h : pInc pc lv k n st w = some o) : ∃ o', pInc pc lv k n st w' = some o' ∧ pEqO o o' := by
  unfold pInc pGo1 at h
  split at h
  · rename_i hg
    cases h; exact ⟨_, by unfold pInc pGo1; simp only [hg], pEqO.go H⟩
  · cases h
theorem pD2l_e {pc : Nat} {lv : pLv} {st : List Value} {w : pW} {w' : pW} {o : pOut} (H : pEqW w w') (h : pD2l pc lv st w = some o) : ∃ o', pD2l pc lv st w' = some o' ∧ pEqO o o' := by
  unfold pD2l at h
  split at h
  · exact pOK8_e H h
  · cases h
theorem pNoRef_e {pc : Nat} {lv : pLv} {st : List Value} {w : pW} {w' : pW} {o : pOut} (H : pEqW w w') (h : pNoRef pc lv st w = some o) : ∃ o', pNoRef pc lv st w' = some o' ∧ pEqO o o' := by
  unfold pNoRef at h
  split at h
  · exact pOK8_e H h
  · cases h
theorem pTab_e {lo hi : Int} {dt : List Nat} {lv : pLv} {st : List Value} {w : pW} {w' : pW} {o : pOut} (H : pEqW w w') (h : pTab lo hi dt lv st w = some o) : ∃ o', pTab lo hi dt lv st w' = some o' ∧ pEqO o o' := by
  unfold pTab pGo1 at h
  split at h
  · rcases pCond h with ⟨hc, h⟩ | ⟨hc, h⟩
    · cases h; exact ⟨_, by unfold pTab pGo1; simp only [hc, cond_true], pEqO.go H⟩
    · split at h
      · rename_i ht
        cases h; exact ⟨_, by unfold pTab pGo1; simp only [hc, ht, cond_false], pEqO.go H⟩
      · cases h
  · cases h
theorem pIf_e {pc : Nat} {dt : List Nat} {lv : pLv} {st : List Value} {w : pW} {f : Int32 → Bool} {w' : pW} {o : pOut} (H : pEqW w w') (h : pIf pc dt lv st w f = some o) : ∃ o', pIf pc dt lv st w' f = some o' ∧ pEqO o o' := by
  unfold pIf at h
  split at h
  · exact pBr_e H h
  · cases h
theorem pIf2_e {pc : Nat} {dt : List Nat} {lv : pLv} {st : List Value} {w : pW} {f : Int32 → Int32 → Bool} {w' : pW} {o : pOut} (H : pEqW w w') (h : pIf2 pc dt lv st w f = some o) : ∃ o', pIf2 pc dt lv st w' f = some o' ∧ pEqO o o' := by
  unfold pIf2 at h
  split at h
  · exact pBr_e H h
  · cases h
theorem pGetF_e {pc : Nat} {dt : List Nat} {lv : pLv} {st : List Value} {w w' : pW} {o : pOut} (H : pEqW w w') (h : pGetF pc dt lv st w = some o) : ∃ o', pGetF pc dt lv st w' = some o' ∧ pEqO o o' := by
  unfold pGetF pGo1 at h
  split at h
  · split at h
    · rename_i hw
      obtain ⟨c', hw', e⟩ := H.get hw
      rw [e.obj] at hw'
      rcases pCond h with ⟨hc, h⟩ | ⟨hc, h⟩
      · split at h
        · rename_i hv
          cases h
          exact ⟨_, by unfold pGetF pGo1; simp only [hw', hc, hv, cond_true], pEqO.go H⟩
        · cases h
      · cases h
    · cases h
  · cases h
theorem pPutF_e {pc : Nat} {dt : List Nat} {lv : pLv} {st : List Value} {w w' : pW} {o : pOut} (H : pEqW w w') (h : pPutF pc dt lv st w = some o) : ∃ o', pPutF pc dt lv st w' = some o' ∧ pEqO o o' := by
  unfold pPutF pGo1 at h
  split at h
  · split at h
    · rename_i hw
      obtain ⟨c', hw', e⟩ := H.get hw
      rw [e.obj] at hw'
      rcases pCond h with ⟨hc, h⟩ | ⟨hc, h⟩
      · cases h
        exact ⟨_, by unfold pPutF pGo1; simp only [hw', hc, cond_true], pEqO.go (H.set pEq1.mkO)⟩
      · cases h
    · cases h
  · cases h
theorem pInB_lt {x : Int32} {n : Nat} (h : pInB x n = true) : x.toNatClampNeg < n := by
  unfold pInB at h
  rw [Bool.and_eq_true] at h
  exact pBle h.2
theorem pALd_e {pc kd : Nat} {lv : pLv} {st : List Value} {w w' : pW} {o : pOut} (H : pEqW w w') (h : pALd pc kd lv st w = some o) : ∃ o', pALd pc kd lv st w' = some o' ∧ pEqO o o' := by
  unfold pALd pGo1 at h
  split at h
  · split at h
    · rename_i hw
      obtain ⟨c', hw', e⟩ := H.get hw
      obtain ⟨g, rfl, eg⟩ := e.int
      rcases pCond h with ⟨hc, h⟩ | ⟨hc, h⟩
      · cases h
        rw [eg _ (pInB_lt (by rw [Bool.and_eq_true] at hc; exact hc.2))]
        exact ⟨_, by unfold pALd pGo1; simp only [hw', hc, cond_true], pEqO.go H⟩
      · cases h
    · cases h
  · cases h
theorem pALdL_e {pc : Nat} {lv : pLv} {st : List Value} {w w' : pW} {o : pOut} (H : pEqW w w') (h : pALdL pc lv st w = some o) : ∃ o', pALdL pc lv st w' = some o' ∧ pEqO o o' := by
  unfold pALdL pGo1 at h
  split at h
  · split at h
    · rename_i hw
      obtain ⟨c', hw', e⟩ := H.get hw
      obtain ⟨g, rfl, eg⟩ := e.long
      rcases pCond h with ⟨hc, h⟩ | ⟨hc, h⟩
      · cases h
        rw [eg _ (pInB_lt (by rw [Bool.and_eq_true] at hc; exact hc.2))]
        exact ⟨_, by unfold pALdL pGo1; simp only [hw', hc, cond_true], pEqO.go H⟩
      · cases h
    · cases h
  · cases h
theorem pALen_e {pc : Nat} {lv : pLv} {st : List Value} {w w' : pW} {o : pOut} (H : pEqW w w') (h : pALen pc lv st w = some o) : ∃ o', pALen pc lv st w' = some o' ∧ pEqO o o' := by
  unfold pALen pGo1 at h
  split at h
  · split at h
    · rename_i k x hw
      obtain ⟨c', hw', e⟩ := H.get hw
      obtain ⟨n, f | f | f⟩ := x
      · obtain ⟨g, rfl, eg⟩ := e.int
        rcases pCond h with ⟨hc, h⟩ | ⟨hc, h⟩
        · cases h
          exact ⟨_, by unfold pALen pGo1; simp only [hw', hc, cond_true], pEqO.go H⟩
        · cases h
      · obtain ⟨g, rfl, eg⟩ := e.long
        rcases pCond h with ⟨hc, h⟩ | ⟨hc, h⟩
        · cases h
          exact ⟨_, by unfold pALen pGo1; simp only [hw', hc, cond_true], pEqO.go H⟩
        · cases h
      · exact e.elim
    · cases h
  · cases h
theorem pASt_e {pc : Nat} {lv : pLv} {st : List Value} {w w' : pW} {o : pOut} (H : pEqW w w') (h : pASt pc lv st w = some o) : ∃ o', pASt pc lv st w' = some o' ∧ pEqO o o' := by
  unfold pASt pGo1 at h
  split at h
  · split at h
    · rename_i hw
      obtain ⟨c', hw', e⟩ := H.get hw
      obtain ⟨g, rfl, eg⟩ := e.int
      rcases pCond h with ⟨hc, h⟩ | ⟨hc, h⟩
      · cases h
        exact ⟨_, by unfold pASt pGo1; simp only [hw', hc, cond_true], pEqO.go (H.set (pEq1.mkI (upd_eq eg)))⟩
      · cases h
    · cases h
  · cases h
theorem pAStZ_e {pc : Nat} {lv : pLv} {st : List Value} {w w' : pW} {o : pOut} (H : pEqW w w') (h : pAStZ pc lv st w = some o) : ∃ o', pAStZ pc lv st w' = some o' ∧ pEqO o o' := by
  unfold pAStZ pGo1 at h
  split at h
  · split at h
    · rename_i hw
      obtain ⟨c', hw', e⟩ := H.get hw
      obtain ⟨g, rfl, eg⟩ := e.int
      rcases pCond h with ⟨hc, h⟩ | ⟨hc, h⟩
      · cases h
        exact ⟨_, by unfold pAStZ pGo1; simp only [hw', hc, cond_true], pEqO.go (H.set (pEq1.mkI (upd_eq eg)))⟩
      · cases h
    · cases h
  · cases h
theorem pAStL_e {pc : Nat} {lv : pLv} {st : List Value} {w w' : pW} {o : pOut} (H : pEqW w w') (h : pAStL pc lv st w = some o) : ∃ o', pAStL pc lv st w' = some o' ∧ pEqO o o' := by
  unfold pAStL pGo1 at h
  split at h
  · split at h
    · rename_i hw
      obtain ⟨c', hw', e⟩ := H.get hw
      obtain ⟨g, rfl, eg⟩ := e.long
      rcases pCond h with ⟨hc, h⟩ | ⟨hc, h⟩
      · cases h
        exact ⟨_, by unfold pAStL pGo1; simp only [hw', hc, cond_true], pEqO.go (H.set (pEq1.mkL (updL_eq eg)))⟩
      · cases h
    · cases h
  · cases h
theorem pNewA_e {pc : Nat} {dt : List Nat} {lv : pLv} {st : List Value} {w w' : pW} {o : pOut} (H : pEqW w w') (h : pNewA pc dt lv st w = some o) : ∃ o', pNewA pc dt lv st w' = some o' ∧ pEqO o o' := by
  unfold pNewA pGo1 at h
  split at h
  · rcases pCond h with ⟨hc, h⟩ | ⟨hc, h⟩
    · cases h
      refine ⟨_, ?_, pEqO.mk (congrArg (fun n => Value.ref n :: _) H.1) (H.app (pEq1.rf ?_))⟩
      · unfold pNewA pGo1
        simp only [hc, cond_true]
      · unfold pZero
        split
        · rename_i hz
          revert hz
          cases Nat.beq _ 1 <;> (intro hz; cases hz)
        · trivial
    · cases h
  · cases h
theorem pNewO_e {pc : Nat} {dt : List Nat} {lv : pLv} {st : List Value} {w w' : pW} {o : pOut} (H : pEqW w w') (h : pNewO pc dt lv st w = some o) : ∃ o', pNewO pc dt lv st w' = some o' ∧ pEqO o o' := by
  unfold pNewO pGo1 at h
  split at h
  · cases h
    exact ⟨_, rfl, pEqO.mk (congrArg (fun n => Value.ref n :: _) H.1) (H.app pEq1.mkO)⟩
  · cases h
theorem pCopy_e {pc : Nat} {lv : pLv} {st : List Value} {w w' : pW} {o : pOut} (H : pEqW w w') (h : pCopy pc lv st w = some o) : ∃ o', pCopy pc lv st w' = some o' ∧ pEqO o o' := by
  unfold pCopy at h
  split at h
  · rename_i n9 dp a sp a0 st'
    rcases pCond h with ⟨hc, h⟩ | ⟨hc, h⟩
    · split at h
      · rename_i k0 m0 f k1 m1 g hw0 hw1
        obtain ⟨c0', hw0', e0⟩ := H.get hw0
        obtain ⟨c1', hw1', e1⟩ := H.get hw1
        obtain ⟨g0, rfl, eg0⟩ := e0.int
        obtain ⟨g1, rfl, eg1⟩ := e1.int
        rcases pCond h with ⟨hc2, h⟩ | ⟨hc2, h⟩
        · have hin := hc2
          simp only [Bool.and_eq_true] at hin
          have h4 := pBle hin.1.2
          have H2 : pEqW (w.set a (.inl (k1, m1, .inl (va_cpy f g sp.toNatClampNeg dp.toNatClampNeg n9.toNatClampNeg)))) (w'.set a (.inl (k1, m1, .inl (va_cpy g0 g1 sp.toNatClampNeg dp.toNatClampNeg n9.toNatClampNeg)))) := H.set (pEq1.mkI (cpy_eq eg0 eg1 h4))
          obtain ⟨o', h5, h6⟩ := pOK8_e H2 h
          refine ⟨o', ?_, h6⟩
          unfold pCopy
          simp only [hw0', hw1', hc, hc2, cond_true]
          exact h5
        · cases h
      · rename_i k0 m0 f k1 m1 g hw0 hw1
        obtain ⟨c0', hw0', e0⟩ := H.get hw0
        obtain ⟨c1', hw1', e1⟩ := H.get hw1
        obtain ⟨g0, rfl, eg0⟩ := e0.long
        obtain ⟨g1, rfl, eg1⟩ := e1.long
        rcases pCond h with ⟨hc2, h⟩ | ⟨hc2, h⟩
        · have hin := hc2
          simp only [Bool.and_eq_true] at hin
          have h4 := pBle hin.1.2
          have H2 : pEqW (w.set a (.inl (k1, m1, .inr (.inl (va_cpy f g sp.toNatClampNeg dp.toNatClampNeg n9.toNatClampNeg))))) (w'.set a (.inl (k1, m1, .inr (.inl (va_cpy g0 g1 sp.toNatClampNeg dp.toNatClampNeg n9.toNatClampNeg))))) := H.set (pEq1.mkL (cpy_eq eg0 eg1 h4))
          obtain ⟨o', h5, h6⟩ := pOK8_e H2 h
          refine ⟨o', ?_, h6⟩
          unfold pCopy
          simp only [hw0', hw1', hc, hc2, cond_true]
          exact h5
        · cases h
      · cases h
    · cases h
  · cases h
theorem pCallI_e {j n ci mx : Nat} {st : List Value} {w w' : pW} {o : pOut} (H : pEqW w w') (h : pCallI j n ci mx st w = some o) : ∃ o', pCallI j n ci mx st w' = some o' ∧ pEqO o o' := by
  unfold pCallI at h
  split at h
  · rename_i hp
    split at h
    · rename_i hw
      obtain ⟨c', hw', e⟩ := H.get hw
      rw [e.obj] at hw'
      rcases pCond h with ⟨hc, h⟩ | ⟨hc, h⟩
      · cases h
        exact ⟨_, by unfold pCallI; simp only [hp, hw', hc, cond_true], pEqO.out⟩
      · cases h
    · cases h
  · cases h
theorem pCallS_e {j n mx : Nat} {st : List Value} {o : pOut} (h : pCallS j n mx st = some o) : ∃ o', pCallS j n mx st = some o' ∧ pEqO o o' := by
  refine ⟨o, h, ?_⟩
  unfold pCallS at h
  split at h
  · rcases pCond h with ⟨hc, h⟩ | ⟨hc, h⟩
    · cases h
      exact pEqO.out
    · cases h
  · cases h
theorem pCall_e {pc : Nat} {dt : List Nat} {lv : pLv} {st : List Value} {w w' : pW} {o : pOut} (H : pEqW w w') (h : pCall pc dt lv st w = some o) : ∃ o', pCall pc dt lv st w' = some o' ∧ pEqO o o' := by
  unfold pCall at h ⊢
  split at h
  · split at h
    · exact pNoRef_e H h
    · exact pCallI_e H h
    · exact pCallS_e h
    · exact pCallI_e H h
    · exact pCallS_e h
    · exact pCallI_e H h
    · exact pCopy_e H h
    · exact pD2l_e H h
    · cases h
  · cases h
theorem pRet_e {w w' : pW} {x : Option pOut} {o : pOut} (h : x = some o) (hn : ∀ q, x = some (.inl q) → False) : ∃ o', x = some o' ∧ pEqO o o' := by
  refine ⟨o, h, ?_⟩
  rcases o with q | y
  · exact (hn q h).elim
  · exact pEqO.out
theorem pS1_e {ins : Instr} {pc : Nat} {dt : List Nat} {lv : pLv} {st : List Value} {w w' : pW} {o : pOut} (H : pEqW w w') (h : pS1 ins pc dt lv st w = some o) : ∃ o', pS1 ins pc dt lv st w' = some o' ∧ pEqO o o' := by
  cases ins with
  | iconst n => exact pK1_e H h
  | bipush n => exact pK1_e H h
  | sipush n => exact pK1_e H h
  | lconst n => exact pGo1_e H h
  | iload_n j => exact pLd1_e H h
  | iload j => exact pLd1_e H h
  | lload_n j => exact pLdL_e H h
  | lload j => exact pLdL_e H h
  | aload_n j => exact pLdA_e H h
  | dload_n j => exact pLdD_e H h
  | istore_n j => exact pSt1_e H h
  | istore j => exact pSt1_e H h
  | lstore_n j => exact pStL_e H h
  | lstore j => exact pStL_e H h
  | astore_n j => exact pStA_e H h
  | dstore_n j => exact pStD_e H h
  | iinc j n => exact pInc_e H h
  | iadd => exact pII_e H h
  | isub => exact pII_e H h
  | imul => exact pII_e H h
  | iand => exact pII_e H h
  | ixor => exact pII_e H h
  | ladd => exact pLL_e H h
  | lsub => exact pLL_e H h
  | lmul => exact pLL_e H h
  | land => exact pLL_e H h
  | lor => exact pLL_e H h
  | lxor => exact pLL_e H h
  | lcmp => exact pLL_e H h
  | idiv => exact pDiv_e H h
  | irem => exact pDiv_e H h
  | ldiv => exact pDivL_e H h
  | ddiv => exact pDivD_e H h
  | dmul => exact pDivD_e H h
  | ineg => exact pI1_e H h
  | i2l => exact pI1_e H h
  | i2d => exact pI1_e H h
  | lneg => exact pL1_e H h
  | l2i => exact pL1_e H h
  | l2d => exact pL1_e H h
  | d2l => exact pD1_e H h
  | lushr => exact pLI_e H h
  | lshl => exact pLI_e H h
  | dcmp op => exact pDD_e H h
  | dup => exact pDup_e H h
  | pop => exact pPop_e H h
  | dup2 => exact pDup2_e H h
  | goto o => exact pGoto_e H h
  | tableswitch a b c d => exact pTab_e H h
  | ldc n => exact pLdc_e H h
  | ldc_w n => exact pLdc_e H h
  | ldc2_w n => exact pLdc2_e H h
  | getfield n => exact pGetF_e H h
  | iaload => exact pALd_e H h
  | baload => exact pALd_e H h
  | laload => exact pALdL_e H h
  | arraylength => exact pALen_e H h
  | putfield n => exact pPutF_e H h
  | iastore => exact pASt_e H h
  | bastore => exact pAStZ_e H h
  | lastore => exact pAStL_e H h
  | newarray t => exact pNewA_e H h
  | new n => exact pNewO_e H h
  | invokevirtual n => exact pCall_e H h
  | invokespecial n => exact pCall_e H h
  | invokestatic n => exact pCall_e H h
  | ifCond kc off => cases kc <;> exact pIf_e H h
  | if_icmp kc off => cases kc <;> exact pIf2_e H h
  | ireturn => exact pRet_e (w := w) (w' := w') h (fun q => pIret_no)
  | lreturn => exact pRet_e (w := w) (w' := w') h (fun q => pLret_no)
  | return_ => exact pRet_e (w := w) (w' := w') h (fun q => pVret_no)
  | _ => exact (by have h2 : (none : Option pOut) = some o := h; cases h2)
theorem pGo_e : ∀ (n i pc : Nat) (lv : pLv) (st : List Value) (w w' : pW) (r : Option Value) (w1 : pW), pEqW w w' → pGo n i (pc, lv, st, w) = some (r, w1) → ∃ w1', pGo n i (pc, lv, st, w') = some (r, w1') ∧ pEqW w1 w1' := by
  intro n
  induction n with
  | zero => intro i pc lv st w w' r w1 H h; cases h
  | succ n ih =>
    intro i pc lv st w w' r w1 H h
    rw [pGo_succ] at h ⊢
    unfold pStep at h ⊢
    split at h
    · cases h
    · rename_i ins dt hI
      have hI : pI i pc = some (ins, dt) := hI
      unfold pThen at h ⊢
      split at h
      · cases h
      · rename_i q1 h1
        obtain ⟨o', h2, h3⟩ := pS1_e H h1
        rcases o' with q' | y'
        · obtain ⟨pc1, lv1, st1, wx⟩ := q1
          obtain ⟨pc2, lv2, st2, wy⟩ := q'
          obtain ⟨e1, e2, e3, e4⟩ := h3
          have e1 : pc1 = pc2 := e1
          have e2 : lv1 = lv2 := e2
          have e3 : st1 = st2 := e3
          subst e1
          subst e2
          subst e3
          simp only [hI, h2]
          exact ih i pc1 lv1 st1 wx wy r w1 e4 h
        · exact h3.elim
      · rename_i j as rest h1
        obtain ⟨o', h2, h3⟩ := pS1_e H h1
        rcases o' with q' | y'
        · exact h3.elim
        · have h3 : Sum.inl (j, as, rest) = y' := h3
          subst h3
          simp only [hI, h2]
          split at h
          · cases h
          · rename_i r2 w2 h4
            obtain ⟨w2', h5, h6⟩ := ih j 0 _ _ _ w' r2 w2 H h4
            simp only [h5]
            exact ih i _ _ _ w2 w2' r w1 h6 h
      · rename_i r2 h1
        obtain ⟨o', h2, h3⟩ := pS1_e H h1
        rcases o' with q' | y'
        · exact h3.elim
        · have h3 : Sum.inr r2 = y' := h3
          subst h3
          cases h
          simp only [hI, h2]
          exact ⟨w', rfl, H⟩
theorem pRun_e {j : Nat} {as : List Value} {w w' : pW} {r : Option Value} {w1 : pW} (H : pEqW w w') (h : pRun j as w r w1) : ∃ w1', pRun j as w' r w1' ∧ pEqW w1 w1' := by
  obtain ⟨n, h⟩ := h
  obtain ⟨w1', h1, h2⟩ := pGo_e n j 0 _ _ w w' r w1 H h
  exact ⟨w1', ⟨n, h1⟩, h2⟩
