/-! More locals do no harm. -/
def pND : pLv → Bool
  | [] => true
  | q :: l => !(l.any (fun x => Nat.beq x.1 q.1)) && pND l
def lvLe (lv lv' : pLv) : Prop := pND lv = true ∧ pND lv' = true ∧ ∀ k v, pGet lv k = some v → pGet lv' k = some v
theorem pGet_none {lv : pLv} {k : Nat} (h : lv.any (fun x => Nat.beq x.1 k) = false) : pGet lv k = none := by
  induction lv with
  | nil => rfl
  | cons q l ih =>
    rw [List.any_cons, Bool.or_eq_false_iff] at h
    unfold pGet
    rw [h.1]
    exact ih h.2
theorem pGet_filter {P : Nat × Value → Bool} : ∀ {lv : pLv} {j : Nat}, pND lv = true → pGet (lv.filter P) j = (match pGet lv j with
    | some u => if P (j, u) = true then some u else none
    | none => none) := by
  intro lv
  induction lv with
  | nil => intro j _; rfl
  | cons q l ih =>
    intro j hn
    unfold pND at hn
    rw [Bool.and_eq_true, Bool.not_eq_true'] at hn
    by_cases hq : Nat.beq q.1 j = true
    · have e : q.1 = j := pBeq hq
      have e1 : pGet (q :: l) j = some q.2 := by
        unfold pGet
        rw [hq]
        rfl
      rw [e1]
      simp only
      have e3 : (j, q.2) = q := by rw [← e]
      rw [e3]
      by_cases hp : P q = true
      · rw [List.filter_cons_of_pos hp, if_pos hp]
        unfold pGet
        rw [hq]
        rfl
      · rw [List.filter_cons_of_neg hp, if_neg hp]
        rw [ih hn.2]
        have := pGet_none (lv := l) (k := q.1) hn.1
        rw [e] at this
        rw [this]
    · have hq2 : Nat.beq q.1 j = false := by rw [Bool.not_eq_true] at hq; exact hq
      have e1 : pGet (q :: l) j = pGet l j := by
        conv => lhs; unfold pGet
        rw [hq2]
        rfl
      rw [e1]
      by_cases hp : P q = true
      · rw [List.filter_cons_of_pos hp]
        have e2 : pGet (q :: l.filter P) j = pGet (l.filter P) j := by
          conv => lhs; unfold pGet
          rw [hq2]
          rfl
        rw [e2]
        exact ih hn.2
      · rw [List.filter_cons_of_neg hp]
        exact ih hn.2
theorem any_filter {P f : Nat × Value → Bool} {l : pLv} (h : l.any f = false) : (l.filter P).any f = false := by
  rw [List.any_eq_false] at h ⊢
  intro x hx
  exact h x (List.mem_filter.mp hx).1
theorem pND_filter {P : Nat × Value → Bool} {lv : pLv} (h : pND lv = true) : pND (lv.filter P) = true := by
  induction lv with
  | nil => rfl
  | cons q l ih =>
    unfold pND at h
    rw [Bool.and_eq_true, Bool.not_eq_true'] at h
    by_cases hp : P q = true
    · rw [List.filter_cons_of_pos hp]
      unfold pND
      rw [Bool.and_eq_true, Bool.not_eq_true']
      exact ⟨any_filter h.1, ih h.2⟩
    · rw [List.filter_cons_of_neg hp]
      exact ih h.2
theorem lvLe.upd {P : Nat × Value → Bool} {lv lv' : pLv} {i : Nat} {v : Value} (H : lvLe lv lv') (hP : ∀ u, P (i, u) = false) : lvLe ((i, v) :: lv.filter P) ((i, v) :: lv'.filter P) := by
  have noi : ∀ l : pLv, (l.filter P).any (fun x => Nat.beq x.1 i) = false := by
    intro l
    rw [List.any_eq_false]
    intro x hx hb
    have h1 := (List.mem_filter.mp hx).2
    have e : x.1 = i := pBeq hb
    have e2 : x = (i, x.2) := by rw [← e]
    rw [e2, hP] at h1
    cases h1
  have nd : ∀ l : pLv, pND l = true → pND ((i, v) :: l.filter P) = true := by
    intro l hl
    unfold pND
    rw [Bool.and_eq_true, Bool.not_eq_true']
    exact ⟨noi l, pND_filter hl⟩
  refine ⟨nd _ H.1, nd _ H.2.1, fun k u hk => ?_⟩
  unfold pGet at hk ⊢
  simp only at hk ⊢
  by_cases hb : Nat.beq i k = true
  · rw [hb] at hk ⊢
    exact hk
  · simp only [Bool.not_eq_true] at hb
    rw [hb] at hk ⊢
    simp only [cond_false] at hk ⊢
    rw [pGet_filter H.1] at hk
    rw [pGet_filter H.2.1]
    cases hg : pGet lv k with
    | none => rw [hg] at hk; cases hk
    | some u2 =>
      rw [hg] at hk
      rw [H.2.2 k u2 hg]
      exact hk
theorem lvLe.set1 {lv lv' : pLv} {i : Nat} {v : Value} (H : lvLe lv lv') : lvLe (pSet1 lv i v) (pSet1 lv' i v) := H.upd (fun u => by simp)
theorem lvLe.set2 {lv lv' : pLv} {i : Nat} {v : Value} (H : lvLe lv lv') : lvLe (pSet2 lv i v) (pSet2 lv' i v) := H.upd (fun u => by simp)
def pLeO (o o' : pOut) : Prop := match o, o' with
  | .inl q, .inl q' => q.1 = q'.1 ∧ q.2.2.1 = q'.2.2.1 ∧ q.2.2.2 = q'.2.2.2 ∧ lvLe q.2.1 q'.2.1
  | .inr y, .inr y' => y = y'
  | _, _ => False
theorem pLeO.go {pc : Nat} {lv lv' : pLv} {st : List Value} {w : pW} (H : lvLe lv lv') : pLeO (.inl (pc, lv, st, w)) (.inl (pc, lv', st, w)) := ⟨rfl, rfl, rfl, H⟩
theorem pLeO.out {y : (Nat × List Value × List Value) ⊕ Option Value} : pLeO (.inr y) (.inr y) := rfl
theorem pGo1_l {pc : Nat} {lv : pLv} {st : List Value} {w : pW} {lv' : pLv} {o : pOut} (H : lvLe lv lv') (h : pGo1 pc lv st w = some o) : ∃ o', pGo1 pc lv' st w = some o' ∧ pLeO o o' := by
  unfold pGo1 at h ⊢
  cases h
  exact ⟨_, rfl, pLeO.go H⟩
theorem pOK8_l {pc : Nat} {lv : pLv} {st : List Value} {w : pW} {lv' : pLv} {o : pOut} (H : lvLe lv lv') (h : pOK8 pc lv st w = some o) : ∃ o', pOK8 pc lv' st w = some o' ∧ pLeO o o' := by
  unfold pOK8 pGo1 at h
  rcases pCond h with ⟨hc, h⟩ | ⟨hc, h⟩
  · cases h; exact ⟨_, by unfold pOK8 pGo1; rw [hc]; rfl, pLeO.go H⟩
  · cases h
theorem pBr_l {pc : Nat} {dt : List Nat} {lv : pLv} {st : List Value} {w : pW} {c : Bool} {lv' : pLv} {o : pOut} (H : lvLe lv lv') (h : pBr pc dt lv st w c = some o) : ∃ o', pBr pc dt lv' st w c = some o' ∧ pLeO o o' := by
  unfold pBr pGo1 at h
  split at h
  · rcases pCond h with ⟨hc, h⟩ | ⟨hc, h⟩ <;> (cases h; exact ⟨_, by unfold pBr pGo1; rw [hc]; rfl, pLeO.go H⟩)
  · cases h
theorem pSt1_l {pc : Nat} {lv : pLv} {i : Nat} {st : List Value} {w : pW} {lv' : pLv} {o : pOut} (H : lvLe lv lv') (h : pSt1 pc lv i st w = some o) : ∃ o', pSt1 pc lv' i st w = some o' ∧ pLeO o o' := by
  unfold pSt1 pGo1 at h
  split at h
  · cases h; exact ⟨_, rfl, pLeO.go H.set1⟩
  · cases h
theorem pStL_l {pc : Nat} {lv : pLv} {i : Nat} {st : List Value} {w : pW} {lv' : pLv} {o : pOut} (H : lvLe lv lv') (h : pStL pc lv i st w = some o) : ∃ o', pStL pc lv' i st w = some o' ∧ pLeO o o' := by
  unfold pStL pGo1 at h
  split at h
  · cases h; exact ⟨_, rfl, pLeO.go H.set2⟩
  · cases h
theorem pStD_l {pc : Nat} {lv : pLv} {i : Nat} {st : List Value} {w : pW} {lv' : pLv} {o : pOut} (H : lvLe lv lv') (h : pStD pc lv i st w = some o) : ∃ o', pStD pc lv' i st w = some o' ∧ pLeO o o' := by
  unfold pStD pGo1 at h
  split at h
  · cases h; exact ⟨_, rfl, pLeO.go H.set2⟩
  · cases h
theorem pStA_l {pc : Nat} {lv : pLv} {i : Nat} {st : List Value} {w : pW} {lv' : pLv} {o : pOut} (H : lvLe lv lv') (h : pStA pc lv i st w = some o) : ∃ o', pStA pc lv' i st w = some o' ∧ pLeO o o' := by
  unfold pStA pGo1 at h
  split at h
  · cases h; exact ⟨_, rfl, pLeO.go H.set1⟩
  · cases h; exact ⟨_, rfl, pLeO.go H.set1⟩
  · cases h
theorem pII_l {pc : Nat} {lv : pLv} {st : List Value} {w : pW} {f : Int32 → Int32 → Value} {lv' : pLv} {o : pOut} (H : lvLe lv lv') (h : pII pc lv st w f = some o) : ∃ o', pII pc lv' st w f = some o' ∧ pLeO o o' := by
  unfold pII pGo1 at h
  repeat' (first | (cases h; done) | (cases h; exact ⟨_, rfl, pLeO.go H⟩) | split at h)
theorem pLL_l {pc : Nat} {lv : pLv} {st : List Value} {w : pW} {f : Int64 → Int64 → Value} {lv' : pLv} {o : pOut} (H : lvLe lv lv') (h : pLL pc lv st w f = some o) : ∃ o', pLL pc lv' st w f = some o' ∧ pLeO o o' := by
  unfold pLL pGo1 at h
  repeat' (first | (cases h; done) | (cases h; exact ⟨_, rfl, pLeO.go H⟩) | split at h)
theorem pLI_l {pc : Nat} {lv : pLv} {st : List Value} {w : pW} {f : Int64 → Int32 → Value} {lv' : pLv} {o : pOut} (H : lvLe lv lv') (h : pLI pc lv st w f = some o) : ∃ o', pLI pc lv' st w f = some o' ∧ pLeO o o' := by
  unfold pLI pGo1 at h
  repeat' (first | (cases h; done) | (cases h; exact ⟨_, rfl, pLeO.go H⟩) | split at h)
theorem pDD_l {pc : Nat} {lv : pLv} {st : List Value} {w : pW} {f : UInt64 → UInt64 → Value} {lv' : pLv} {o : pOut} (H : lvLe lv lv') (h : pDD pc lv st w f = some o) : ∃ o', pDD pc lv' st w f = some o' ∧ pLeO o o' := by
  unfold pDD pGo1 at h
  repeat' (first | (cases h; done) | (cases h; exact ⟨_, rfl, pLeO.go H⟩) | split at h)
theorem pI1_l {pc : Nat} {lv : pLv} {st : List Value} {w : pW} {f : Int32 → Value} {lv' : pLv} {o : pOut} (H : lvLe lv lv') (h : pI1 pc lv st w f = some o) : ∃ o', pI1 pc lv' st w f = some o' ∧ pLeO o o' := by
  unfold pI1 pGo1 at h
  repeat' (first | (cases h; done) | (cases h; exact ⟨_, rfl, pLeO.go H⟩) | split at h)
theorem pL1_l {pc : Nat} {lv : pLv} {st : List Value} {w : pW} {f : Int64 → Value} {lv' : pLv} {o : pOut} (H : lvLe lv lv') (h : pL1 pc lv st w f = some o) : ∃ o', pL1 pc lv' st w f = some o' ∧ pLeO o o' := by
  unfold pL1 pGo1 at h
  repeat' (first | (cases h; done) | (cases h; exact ⟨_, rfl, pLeO.go H⟩) | split at h)
theorem pD1_l {pc : Nat} {lv : pLv} {st : List Value} {w : pW} {f : UInt64 → Value} {lv' : pLv} {o : pOut} (H : lvLe lv lv') (h : pD1 pc lv st w f = some o) : ∃ o', pD1 pc lv' st w f = some o' ∧ pLeO o o' := by
  unfold pD1 pGo1 at h
  repeat' (first | (cases h; done) | (cases h; exact ⟨_, rfl, pLeO.go H⟩) | split at h)
theorem pDup_l {pc : Nat} {lv : pLv} {st : List Value} {w : pW} {lv' : pLv} {o : pOut} (H : lvLe lv lv') (h : pDup pc lv st w = some o) : ∃ o', pDup pc lv' st w = some o' ∧ pLeO o o' := by
  unfold pDup pGo1 at h
  split at h
  · rcases pCond h with ⟨hc, h⟩ | ⟨hc, h⟩
    · cases h; exact ⟨_, by unfold pDup pGo1; simp only [hc, cond_true], pLeO.go H⟩
    · cases h
  · cases h
theorem pPop_l {pc : Nat} {lv : pLv} {st : List Value} {w : pW} {lv' : pLv} {o : pOut} (H : lvLe lv lv') (h : pPop pc lv st w = some o) : ∃ o', pPop pc lv' st w = some o' ∧ pLeO o o' := by
  unfold pPop pGo1 at h
  split at h
  · rcases pCond h with ⟨hc, h⟩ | ⟨hc, h⟩
    · cases h; exact ⟨_, by unfold pPop pGo1; simp only [hc, cond_true], pLeO.go H⟩
    · cases h
  · cases h
theorem pDup2_l {pc : Nat} {lv : pLv} {st : List Value} {w : pW} {lv' : pLv} {o : pOut} (H : lvLe lv lv') (h : pDup2 pc lv st w = some o) : ∃ o', pDup2 pc lv' st w = some o' ∧ pLeO o o' := by
  unfold pDup2 pGo1 at h
  split at h
  · rcases pCond h with ⟨hc, h⟩ | ⟨hc, h⟩
    · cases h; exact ⟨_, by unfold pDup2 pGo1; simp only [hc, cond_true], pLeO.go H⟩
    · split at h
      · rcases pCond h with ⟨hc2, h⟩ | ⟨hc2, h⟩
        · cases h; exact ⟨_, by unfold pDup2 pGo1; simp only [hc, hc2, cond_true, cond_false], pLeO.go H⟩
        · cases h
      · cases h
  · cases h
theorem pDiv_l {pc : Nat} {lv : pLv} {st : List Value} {w : pW} {f : Int32 → Int32 → Int32} {lv' : pLv} {o : pOut} (H : lvLe lv lv') (h : pDiv pc lv st w f = some o) : ∃ o', pDiv pc lv' st w f = some o' ∧ pLeO o o' := by
  unfold pDiv pGo1 at h
  split at h
  · rcases pCond h with ⟨hc, h⟩ | ⟨hc, h⟩
    · cases h
    · cases h; exact ⟨_, by unfold pDiv pGo1; simp only [hc, cond_false], pLeO.go H⟩
  · cases h
theorem pDivL_l {pc : Nat} {lv : pLv} {st : List Value} {w : pW} {f : Int64 → Int64 → Int64} {lv' : pLv} {o : pOut} (H : lvLe lv lv') (h : pDivL pc lv st w f = some o) : ∃ o', pDivL pc lv' st w f = some o' ∧ pLeO o o' := by
  unfold pDivL pGo1 at h
  split at h
  · rcases pCond h with ⟨hc, h⟩ | ⟨hc, h⟩
    · cases h
    · cases h; exact ⟨_, by unfold pDivL pGo1; simp only [hc, cond_false], pLeO.go H⟩
  · cases h
theorem pDivD_l {pc : Nat} {lv : pLv} {st : List Value} {w : pW} {f : UInt64 → UInt64 → UInt64} {lv' : pLv} {o : pOut} (H : lvLe lv lv') (h : pDivD pc lv st w f = some o) : ∃ o', pDivD pc lv' st w f = some o' ∧ pLeO o o' := by
  unfold pDivD pGo1 at h
  split at h
  · rcases pCond h with ⟨hc, h⟩ | ⟨hc, h⟩
    · cases h; exact ⟨_, by unfold pDivD pGo1; simp only [hc, cond_true], pLeO.go H⟩
    · cases h
  · cases h
theorem pK1_l {pc : Nat} {dt : List Nat} {lv : pLv} {st : List Value} {w : pW} {lv' : pLv} {o : pOut} (H : lvLe lv lv') (h : pK1 pc dt lv st w = some o) : ∃ o', pK1 pc dt lv' st w = some o' ∧ pLeO o o' := by
  unfold pK1 pGo1 at h
  repeat' (first | (cases h; done) | (cases h; exact ⟨_, rfl, pLeO.go H⟩) | split at h)
theorem pLdc_l {pc : Nat} {dt : List Nat} {lv : pLv} {st : List Value} {w : pW} {lv' : pLv} {o : pOut} (H : lvLe lv lv') (h : pLdc pc dt lv st w = some o) : ∃ o', pLdc pc dt lv' st w = some o' ∧ pLeO o o' := by
  unfold pLdc pGo1 at h
  repeat' (first | (cases h; done) | (cases h; exact ⟨_, rfl, pLeO.go H⟩) | split at h)
theorem pLdc2_l {pc : Nat} {dt : List Nat} {lv : pLv} {st : List Value} {w : pW} {lv' : pLv} {o : pOut} (H : lvLe lv lv') (h : pLdc2 pc dt lv st w = some o) : ∃ o', pLdc2 pc dt lv' st w = some o' ∧ pLeO o o' := by
  unfold pLdc2 pGo1 at h
  repeat' (first | (cases h; done) | (cases h; exact ⟨_, rfl, pLeO.go H⟩) | split at h)
theorem pGoto_l {dt : List Nat} {lv : pLv} {st : List Value} {w : pW} {lv' : pLv} {o : pOut} (H : lvLe lv lv') (h : pGoto dt lv st w = some o) : ∃ o', pGoto dt lv' st w = some o' ∧ pLeO o o' := by
  unfold pGoto pGo1 at h
  repeat' (first | (cases h; done) | (cases h; exact ⟨_, rfl, pLeO.go H⟩) | split at h)
theorem pALd_l {pc kd : Nat} {lv : pLv} {st : List Value} {w : pW} {lv' : pLv} {o : pOut} (H : lvLe lv lv') (h : pALd pc kd lv st w = some o) : ∃ o', pALd pc kd lv' st w = some o' ∧ pLeO o o' := by
  unfold pALd pGo1 at h
  split at h
  · split at h
    · rename_i hw
      rcases pCond h with ⟨hc, h⟩ | ⟨hc, h⟩
      · cases h
        exact ⟨_, by unfold pALd pGo1; simp only [hw, hc, cond_true], pLeO.go H⟩
      · cases h
    · cases h
  · cases h
theorem pALdL_l {pc : Nat} {lv : pLv} {st : List Value} {w : pW} {lv' : pLv} {o : pOut} (H : lvLe lv lv') (h : pALdL pc lv st w = some o) : ∃ o', pALdL pc lv' st w = some o' ∧ pLeO o o' := by
  unfold pALdL pGo1 at h
  split at h
  · split at h
    · rename_i hw
      rcases pCond h with ⟨hc, h⟩ | ⟨hc, h⟩
      · cases h
        exact ⟨_, by unfold pALdL pGo1; simp only [hw, hc, cond_true], pLeO.go H⟩
      · cases h
    · cases h
  · cases h
theorem pALen_l {pc : Nat} {lv : pLv} {st : List Value} {w : pW} {lv' : pLv} {o : pOut} (H : lvLe lv lv') (h : pALen pc lv st w = some o) : ∃ o', pALen pc lv' st w = some o' ∧ pLeO o o' := by
  unfold pALen pGo1 at h
  split at h
  · split at h
    · rename_i hw
      rcases pCond h with ⟨hc, h⟩ | ⟨hc, h⟩
      · cases h
        exact ⟨_, by unfold pALen pGo1; simp only [hw, hc, cond_true], pLeO.go H⟩
      · cases h
    · cases h
  · cases h
theorem pGetF_l {pc : Nat} {dt : List Nat} {lv : pLv} {st : List Value} {w : pW} {lv' : pLv} {o : pOut} (H : lvLe lv lv') (h : pGetF pc dt lv st w = some o) : ∃ o', pGetF pc dt lv' st w = some o' ∧ pLeO o o' := by
  unfold pGetF pGo1 at h
  split at h
  · split at h
    · rename_i hw
      rcases pCond h with ⟨hc, h⟩ | ⟨hc, h⟩
      · split at h
        · rename_i hv
          cases h
          exact ⟨_, by unfold pGetF pGo1; simp only [hw, hc, hv, cond_true], pLeO.go H⟩
        · cases h
      · cases h
    · cases h
  · cases h
theorem pD2l_l {pc : Nat} {lv : pLv} {st : List Value} {w : pW} {lv' : pLv} {o : pOut} (H : lvLe lv lv') (h : pD2l pc lv st w = some o) : ∃ o', pD2l pc lv' st w = some o' ∧ pLeO o o' := by
  unfold pD2l at h
  split at h
  · exact pOK8_l H h
  · cases h
theorem pNoRef_l {pc : Nat} {lv : pLv} {st : List Value} {w : pW} {lv' : pLv} {o : pOut} (H : lvLe lv lv') (h : pNoRef pc lv st w = some o) : ∃ o', pNoRef pc lv' st w = some o' ∧ pLeO o o' := by
  unfold pNoRef at h
  split at h
  · exact pOK8_l H h
  · cases h
theorem pTab_l {lo hi : Int} {dt : List Nat} {lv : pLv} {st : List Value} {w : pW} {lv' : pLv} {o : pOut} (H : lvLe lv lv') (h : pTab lo hi dt lv st w = some o) : ∃ o', pTab lo hi dt lv' st w = some o' ∧ pLeO o o' := by
  unfold pTab pGo1 at h
  split at h
  · rcases pCond h with ⟨hc, h⟩ | ⟨hc, h⟩
    · cases h; exact ⟨_, by unfold pTab pGo1; simp only [hc, cond_true], pLeO.go H⟩
    · split at h
      · rename_i ht
        cases h; exact ⟨_, by unfold pTab pGo1; simp only [hc, ht, cond_false], pLeO.go H⟩
      · cases h
  · cases h
theorem pPutF_l {pc : Nat} {dt : List Nat} {lv : pLv} {st : List Value} {w : pW} {lv' : pLv} {o : pOut} (H : lvLe lv lv') (h : pPutF pc dt lv st w = some o) : ∃ o', pPutF pc dt lv' st w = some o' ∧ pLeO o o' := by
  unfold pPutF pGo1 at h
  split at h
  · split at h
    · rename_i hw
      rcases pCond h with ⟨hc, h⟩ | ⟨hc, h⟩
      · cases h
        exact ⟨_, by unfold pPutF pGo1; simp only [hw, hc, cond_true], pLeO.go H⟩
      · cases h
    · cases h
  · cases h
theorem pASt_l {pc : Nat} {lv : pLv} {st : List Value} {w : pW} {lv' : pLv} {o : pOut} (H : lvLe lv lv') (h : pASt pc lv st w = some o) : ∃ o', pASt pc lv' st w = some o' ∧ pLeO o o' := by
  unfold pASt pGo1 at h
  split at h
  · split at h
    · rename_i hw
      rcases pCond h with ⟨hc, h⟩ | ⟨hc, h⟩
      · cases h
        exact ⟨_, by unfold pASt pGo1; simp only [hw, hc, cond_true], pLeO.go H⟩
      · cases h
    · cases h
  · cases h
theorem pAStZ_l {pc : Nat} {lv : pLv} {st : List Value} {w : pW} {lv' : pLv} {o : pOut} (H : lvLe lv lv') (h : pAStZ pc lv st w = some o) : ∃ o', pAStZ pc lv' st w = some o' ∧ pLeO o o' := by
  unfold pAStZ pGo1 at h
  split at h
  · split at h
    · rename_i hw
      rcases pCond h with ⟨hc, h⟩ | ⟨hc, h⟩
      · cases h
        exact ⟨_, by unfold pAStZ pGo1; simp only [hw, hc, cond_true], pLeO.go H⟩
      · cases h
    · cases h
  · cases h
theorem pAStL_l {pc : Nat} {lv : pLv} {st : List Value} {w : pW} {lv' : pLv} {o : pOut} (H : lvLe lv lv') (h : pAStL pc lv st w = some o) : ∃ o', pAStL pc lv' st w = some o' ∧ pLeO o o' := by
  unfold pAStL pGo1 at h
  split at h
  · split at h
    · rename_i hw
      rcases pCond h with ⟨hc, h⟩ | ⟨hc, h⟩
      · cases h
        exact ⟨_, by unfold pAStL pGo1; simp only [hw, hc, cond_true], pLeO.go H⟩
      · cases h
    · cases h
  · cases h
theorem pNewA_l {pc : Nat} {dt : List Nat} {lv : pLv} {st : List Value} {w : pW} {lv' : pLv} {o : pOut} (H : lvLe lv lv') (h : pNewA pc dt lv st w = some o) : ∃ o', pNewA pc dt lv' st w = some o' ∧ pLeO o o' := by
  unfold pNewA pGo1 at h
  split at h
  · rcases pCond h with ⟨hc, h⟩ | ⟨hc, h⟩
    · cases h
      exact ⟨_, by unfold pNewA pGo1; simp only [hc, cond_true], pLeO.go H⟩
    · cases h
  · cases h
theorem pNewO_l {pc : Nat} {dt : List Nat} {lv : pLv} {st : List Value} {w : pW} {lv' : pLv} {o : pOut} (H : lvLe lv lv') (h : pNewO pc dt lv st w = some o) : ∃ o', pNewO pc dt lv' st w = some o' ∧ pLeO o o' := by
  unfold pNewO pGo1 at h
  repeat' (first | (cases h; done) | (cases h; exact ⟨_, rfl, pLeO.go H⟩) | split at h)
theorem pLd1_l {pc k : Nat} {lv lv' : pLv} {st : List Value} {w : pW} {o : pOut} (H : lvLe lv lv') (h : pLd1 pc lv st w (pGet lv k) = some o) : ∃ o', pLd1 pc lv' st w (pGet lv' k) = some o' ∧ pLeO o o' := by
  cases hv : pGet lv k with
  | none => rw [hv] at h; cases h
  | some v =>
    rw [hv] at h
    rw [H.2.2 k v hv]
    unfold pLd1 pGo1 at h
    split at h
    · rename_i hx
      cases hx
      cases h
      exact ⟨_, rfl, pLeO.go H⟩
    · cases h
theorem pLdL_l {pc k : Nat} {lv lv' : pLv} {st : List Value} {w : pW} {o : pOut} (H : lvLe lv lv') (h : pLdL pc lv st w (pGet lv k) = some o) : ∃ o', pLdL pc lv' st w (pGet lv' k) = some o' ∧ pLeO o o' := by
  cases hv : pGet lv k with
  | none => rw [hv] at h; cases h
  | some v =>
    rw [hv] at h
    rw [H.2.2 k v hv]
    unfold pLdL pGo1 at h
    split at h
    · rename_i hx
      cases hx
      cases h
      exact ⟨_, rfl, pLeO.go H⟩
    · cases h
theorem pLdD_l {pc k : Nat} {lv lv' : pLv} {st : List Value} {w : pW} {o : pOut} (H : lvLe lv lv') (h : pLdD pc lv st w (pGet lv k) = some o) : ∃ o', pLdD pc lv' st w (pGet lv' k) = some o' ∧ pLeO o o' := by
  cases hv : pGet lv k with
  | none => rw [hv] at h; cases h
  | some v =>
    rw [hv] at h
    rw [H.2.2 k v hv]
    unfold pLdD pGo1 at h
    split at h
    · rename_i hx
      cases hx
      cases h
      exact ⟨_, rfl, pLeO.go H⟩
    · cases h
theorem pLdA_l {pc k : Nat} {lv lv' : pLv} {st : List Value} {w : pW} {o : pOut} (H : lvLe lv lv') (h : pLdA pc lv st w (pGet lv k) = some o) : ∃ o', pLdA pc lv' st w (pGet lv' k) = some o' ∧ pLeO o o' := by
  cases hv : pGet lv k with
  | none => rw [hv] at h; cases h
  | some v =>
    rw [hv] at h
    rw [H.2.2 k v hv]
    unfold pLdA pGo1 at h
    split at h
    · rename_i hx
      cases hx
      cases h
      exact ⟨_, rfl, pLeO.go H⟩
    · rename_i hx
      cases hx
      cases h
      exact ⟨_, rfl, pLeO.go H⟩
    · cases h
theorem pInc_l {pc k : Nat} {n : Int} {lv lv' : pLv} {st : List Value} {w : pW} {o : pOut} (H : lvLe lv lv') (h : pInc pc lv k n st w = some o) : ∃ o', pInc pc lv' k n st w = some o' ∧ pLeO o o' := by
  unfold pInc pGo1 at h
  split at h
  · rename_i hx
    cases h
    exact ⟨_, by unfold pInc pGo1; simp only [H.2.2 _ _ hx], pLeO.go H.set1⟩
  · cases h
theorem pIf_l {pc : Nat} {dt : List Nat} {lv : pLv} {st : List Value} {w : pW} {f : Int32 → Bool} {lv' : pLv} {o : pOut} (H : lvLe lv lv') (h : pIf pc dt lv st w f = some o) : ∃ o', pIf pc dt lv' st w f = some o' ∧ pLeO o o' := by
  unfold pIf at h
  split at h
  · exact pBr_l H h
  · cases h
theorem pIf2_l {pc : Nat} {dt : List Nat} {lv : pLv} {st : List Value} {w : pW} {f : Int32 → Int32 → Bool} {lv' : pLv} {o : pOut} (H : lvLe lv lv') (h : pIf2 pc dt lv st w f = some o) : ∃ o', pIf2 pc dt lv' st w f = some o' ∧ pLeO o o' := by
  unfold pIf2 at h
  split at h
  · exact pBr_l H h
  · cases h
theorem pCopy_l {pc : Nat} {lv lv' : pLv} {st : List Value} {w : pW} {o : pOut} (H : lvLe lv lv') (h : pCopy pc lv st w = some o) : ∃ o', pCopy pc lv' st w = some o' ∧ pLeO o o' := by
  unfold pCopy at h
  split at h
  · rcases pCond h with ⟨hc, h⟩ | ⟨hc, h⟩
    · split at h
      · rename_i hw0 hw1
        rcases pCond h with ⟨hc2, h⟩ | ⟨hc2, h⟩
        · obtain ⟨o', h5, h6⟩ := pOK8_l H h
          refine ⟨o', ?_, h6⟩
          unfold pCopy
          simp only [hw0, hw1, hc, hc2, cond_true]
          exact h5
        · cases h
      · rename_i hw0 hw1
        rcases pCond h with ⟨hc2, h⟩ | ⟨hc2, h⟩
        · obtain ⟨o', h5, h6⟩ := pOK8_l H h
          refine ⟨o', ?_, h6⟩
          unfold pCopy
          simp only [hw0, hw1, hc, hc2, cond_true]
          exact h5
        · cases h
      · cases h
    · cases h
  · cases h
theorem pSame_l {x : Option pOut} {o : pOut} (h : x = some o) (hn : ∀ q, x = some (.inl q) → False) : ∃ o', x = some o' ∧ pLeO o o' := by
  refine ⟨o, h, ?_⟩
  rcases o with q | y
  · exact (hn q h).elim
  · exact pLeO.out
theorem pALdA_l {pc : Nat} {lv : pLv} {st : List Value} {w : pW} {lv' : pLv} {o : pOut} (H : lvLe lv lv') (h : pALdA pc lv st w = some o) : ∃ o', pALdA pc lv' st w = some o' ∧ pLeO o o' := by
  unfold pALdA pGo1 at h
  split at h
  · split at h
    · rename_i hw
      rcases pCond h with ⟨hc, h⟩ | ⟨hc, h⟩
      · cases h
        exact ⟨_, by unfold pALdA pGo1; simp only [hw, hc, cond_true], pLeO.go H⟩
      · cases h
    · cases h
  · cases h
theorem pAStA_l {pc : Nat} {lv : pLv} {st : List Value} {w : pW} {lv' : pLv} {o : pOut} (H : lvLe lv lv') (h : pAStA pc lv st w = some o) : ∃ o', pAStA pc lv' st w = some o' ∧ pLeO o o' := by
  unfold pAStA pGo1 at h
  split at h
  · split at h
    · rename_i hw
      rcases pCond h with ⟨hc, h⟩ | ⟨hc, h⟩
      · cases h
        exact ⟨_, by unfold pAStA pGo1; simp only [hw, hc, cond_true], pLeO.go H⟩
      · cases h
    · cases h
  · split at h
    · rename_i hw
      rcases pCond h with ⟨hc, h⟩ | ⟨hc, h⟩
      · cases h
        exact ⟨_, by unfold pAStA pGo1; simp only [hw, hc, cond_true], pLeO.go H⟩
      · cases h
    · cases h
  · cases h
theorem pANew_l {pc : Nat} {dt : List Nat} {lv : pLv} {st : List Value} {w : pW} {lv' : pLv} {o : pOut} (H : lvLe lv lv') (h : pANew pc dt lv st w = some o) : ∃ o', pANew pc dt lv' st w = some o' ∧ pLeO o o' := by
  unfold pANew pGo1 at h
  split at h
  · rcases pCond h with ⟨hc, h⟩ | ⟨hc, h⟩
    · cases h
      exact ⟨_, by unfold pANew pGo1; simp only [hc, cond_true], pLeO.go H⟩
    · cases h
  · cases h
theorem pMNew_l {pc : Nat} {lv : pLv} {st : List Value} {w : pW} {lv' : pLv} {o : pOut} (H : lvLe lv lv') (h : pMNew pc lv st w = some o) : ∃ o', pMNew pc lv' st w = some o' ∧ pLeO o o' := by
  unfold pMNew pGo1 at h
  split at h
  · rcases pCond h with ⟨hc, h⟩ | ⟨hc, h⟩
    · cases h
      exact ⟨_, by unfold pMNew pGo1; simp only [hc, cond_true], pLeO.go H⟩
    · cases h
  · cases h
theorem pClone_l {pc : Nat} {lv : pLv} {st : List Value} {w : pW} {lv' : pLv} {o : pOut} (H : lvLe lv lv') (h : pClone pc lv st w = some o) : ∃ o', pClone pc lv' st w = some o' ∧ pLeO o o' := by
  unfold pClone pGo1 at h
  split at h
  · split at h
    · rename_i hw
      rcases pCond h with ⟨hc, h⟩ | ⟨hc, h⟩
      · cases h
        exact ⟨_, by unfold pClone pGo1; simp only [hw, hc, cond_true], pLeO.go H⟩
      · cases h
    · cases h
  · cases h
theorem pCast_l {pc : Nat} {lv : pLv} {st : List Value} {w : pW} {lv' : pLv} {o : pOut} (H : lvLe lv lv') (h : pCast pc lv st w = some o) : ∃ o', pCast pc lv' st w = some o' ∧ pLeO o o' := by
  unfold pCast pGo1 at h
  split at h
  · split at h
    · rename_i hw
      cases h
      exact ⟨_, by unfold pCast pGo1; simp only [hw], pLeO.go H⟩
    · cases h
  · cases h
theorem pIfN_l {pc : Nat} {dt : List Nat} {lv : pLv} {st : List Value} {w : pW} {y : Bool} {lv' : pLv} {o : pOut} (H : lvLe lv lv') (h : pIfN pc dt lv st w y = some o) : ∃ o', pIfN pc dt lv' st w y = some o' ∧ pLeO o o' := by
  unfold pIfN at h
  split at h
  · exact pBr_l H h
  · exact pBr_l H h
  · cases h
theorem pCall_l {pc : Nat} {dt : List Nat} {lv lv' : pLv} {st : List Value} {w : pW} {o : pOut} (H : lvLe lv lv') (h : pCall pc dt lv st w = some o) : ∃ o', pCall pc dt lv' st w = some o' ∧ pLeO o o' := by
  unfold pCall at h ⊢
  split at h
  · split at h
    · exact pNoRef_l H h
    · exact pSame_l h (fun q => pCallI_no)
    · exact pSame_l h (fun q => pCallS_no)
    · exact pSame_l h (fun q => pCallI_no)
    · exact pSame_l h (fun q => pCallS_no)
    · exact pSame_l h (fun q => pCallI_no)
    · exact pCopy_l H h
    · exact pD2l_l H h
    · exact pClone_l H h
    · cases h
  · cases h
theorem pS1_l {ins : Instr} {pc : Nat} {dt : List Nat} {lv lv' : pLv} {st : List Value} {w : pW} {o : pOut} (H : lvLe lv lv') (h : pS1 ins pc dt lv st w = some o) : ∃ o', pS1 ins pc dt lv' st w = some o' ∧ pLeO o o' := by
  cases ins with
  | iconst n => exact pK1_l H h
  | bipush n => exact pK1_l H h
  | sipush n => exact pK1_l H h
  | lconst n => exact pGo1_l H h
  | iload_n j => exact pLd1_l H h
  | iload j => exact pLd1_l H h
  | lload_n j => exact pLdL_l H h
  | lload j => exact pLdL_l H h
  | aload_n j => exact pLdA_l H h
  | dload_n j => exact pLdD_l H h
  | istore_n j => exact pSt1_l H h
  | istore j => exact pSt1_l H h
  | lstore_n j => exact pStL_l H h
  | lstore j => exact pStL_l H h
  | astore_n j => exact pStA_l H h
  | dstore_n j => exact pStD_l H h
  | iinc j n => exact pInc_l H h
  | iadd => exact pII_l H h
  | isub => exact pII_l H h
  | imul => exact pII_l H h
  | iand => exact pII_l H h
  | ixor => exact pII_l H h
  | ladd => exact pLL_l H h
  | lsub => exact pLL_l H h
  | lmul => exact pLL_l H h
  | land => exact pLL_l H h
  | lor => exact pLL_l H h
  | lxor => exact pLL_l H h
  | lcmp => exact pLL_l H h
  | idiv => exact pDiv_l H h
  | irem => exact pDiv_l H h
  | ldiv => exact pDivL_l H h
  | ddiv => exact pDivD_l H h
  | dmul => exact pDivD_l H h
  | ineg => exact pI1_l H h
  | i2l => exact pI1_l H h
  | i2d => exact pI1_l H h
  | lneg => exact pL1_l H h
  | l2i => exact pL1_l H h
  | l2d => exact pL1_l H h
  | d2l => exact pD1_l H h
  | lushr => exact pLI_l H h
  | lshl => exact pLI_l H h
  | dcmp op => exact pDD_l H h
  | dup => exact pDup_l H h
  | pop => exact pPop_l H h
  | dup2 => exact pDup2_l H h
  | goto o => exact pGoto_l H h
  | tableswitch a b c d => exact pTab_l H h
  | ldc n => exact pLdc_l H h
  | ldc_w n => exact pLdc_l H h
  | ldc2_w n => exact pLdc2_l H h
  | getfield n => exact pGetF_l H h
  | iaload => exact pALd_l H h
  | baload => exact pALd_l H h
  | laload => exact pALdL_l H h
  | aload j => exact pLdA_l H h
  | astore j => exact pStA_l H h
  | aconst_null => exact pGo1_l H h
  | ior => exact pII_l H h
  | ishl => exact pII_l H h
  | ishr => exact pII_l H h
  | iushr => exact pII_l H h
  | ifnull n => exact pIfN_l H h
  | ifnonnull n => exact pIfN_l H h
  | aaload => exact pALdA_l H h
  | aastore => exact pAStA_l H h
  | anewarray n => exact pANew_l H h
  | multianewarray n k => exact pMNew_l H h
  | checkcast n => exact pCast_l H h
  | areturn => exact pSame_l h (fun q => pAret_no)
  | arraylength => exact pALen_l H h
  | putfield n => exact pPutF_l H h
  | iastore => exact pASt_l H h
  | bastore => exact pAStZ_l H h
  | lastore => exact pAStL_l H h
  | newarray t => exact pNewA_l H h
  | new n => exact pNewO_l H h
  | invokevirtual n => exact pCall_l H h
  | invokespecial n => exact pCall_l H h
  | invokestatic n => exact pCall_l H h
  | ifCond kc off => cases kc <;> exact pIf_l H h
  | if_icmp kc off => cases kc <;> exact pIf2_l H h
  | ireturn => exact pSame_l h (fun q => pIret_no)
  | lreturn => exact pSame_l h (fun q => pLret_no)
  | return_ => exact pSame_l h (fun q => pVret_no)
  | _ => exact (by have h2 : (none : Option pOut) = some o := h; cases h2)
theorem pGo_l : ∀ (n i pc : Nat) (lv lv' : pLv) (st : List Value) (w : pW) (x : Option Value × pW), lvLe lv lv' → pGo n i (pc, lv, st, w) = some x → pGo n i (pc, lv', st, w) = some x := by
  intro n
  induction n with
  | zero => intro i pc lv lv' st w x H h; cases h
  | succ n ih =>
    intro i pc lv lv' st w x H h
    rw [pGo_succ] at h ⊢
    unfold pStep at h ⊢
    split at h
    · cases h
    · rename_i ins dt hI
      have hI : pI i pc = some (ins, dt) := hI
      unfold pThen at h ⊢
      split at h
      · cases h
      · rename_i q1 h1
        obtain ⟨o', h2, h3⟩ := pS1_l H h1
        rcases o' with q' | y'
        · obtain ⟨pc1, lv1, st1, wx⟩ := q1
          obtain ⟨pc2, lv2, st2, wy⟩ := q'
          obtain ⟨e1, e2, e3, e4⟩ := h3
          have e1 : pc1 = pc2 := e1
          have e2 : st1 = st2 := e2
          have e3 : wx = wy := e3
          subst e1
          subst e2
          subst e3
          simp only [hI, h2]
          exact ih i pc1 lv1 lv2 st1 wx x e4 h
        · exact h3.elim
      · rename_i j as rest h1
        obtain ⟨o', h2, h3⟩ := pS1_l H h1
        rcases o' with q' | y'
        · exact h3.elim
        · have h3 : Sum.inl (j, as, rest) = y' := h3
          subst h3
          simp only [hI, h2]
          split at h
          · cases h
          · rename_i r2 w2 h4
            have h4 : pGo n j (0, lv_args 0 as, [], w) = some (r2, w2) := h4
            simp only [h4]
            exact ih i _ lv lv' _ w2 x H h
      · rename_i r2 h1
        obtain ⟨o', h2, h3⟩ := pS1_l H h1
        rcases o' with q' | y'
        · exact h3.elim
        · have h3 : Sum.inr r2 = y' := h3
          subst h3
          simp only [hI, h2]
          exact h
theorem pr_less {i pc : Nat} {lv lv' : pLv} {st : List Value} {w : pW} {r : Option Value} {w1 : pW} (H : lvLe lv lv') (K : pRest i (pc, lv, st, w) r w1) : pRest i (pc, lv', st, w) r w1 := by
  obtain ⟨n, h⟩ := K
  exact ⟨n, pGo_l n i pc lv lv' st w _ H h⟩
/-- lv's entries are among those of lv' -/
theorem lvLe_of {lv lv' : pLv} (h1 : pND lv = true) (h2 : pND lv' = true) (h : ∀ q ∈ lv, pGet lv' q.1 = some q.2) : lvLe lv lv' := ⟨h1, h2, fun k v hk => h (k, v) (pGet_in hk)⟩
