/-! A RUN OF THE PLAIN MACHINE IS A RUN OF THE MACHINE. -/
-- worlds only grow
def pLe (w w' : pW) : Prop := w.length ≤ w'.length ∧ pwsz w ≤ pwsz w'
theorem pLe.rf {w : pW} : pLe w w := ⟨Nat.le_refl _, Nat.le_refl _⟩
theorem pLe.tr {w1 w2 w3 : pW} (h : pLe w1 w2) (g : pLe w2 w3) : pLe w1 w3 := ⟨Nat.le_trans h.1 g.1, Nat.le_trans h.2 g.2⟩
theorem pLe.set {w : pW} {a : Nat} {c0 c1 : pCell} (hw : w[a]? = some c0) (hs : pcsz c1 = pcsz c0) : pLe w (w.set a c1) := by
  refine ⟨by rw [List.length_set]; exact Nat.le_refl _, ?_⟩
  rw [pwsz_set hw hs]
  exact Nat.le_refl _
theorem pLe.app {w : pW} {c1 : pCell} : pLe w (w ++ [c1]) := by
  refine ⟨by simp, ?_⟩
  rw [pwsz_app]
  exact Nat.le_add_right _ _
theorem pOK8_m {pc : Nat} {lv : pLv} {st : List Value} {w : pW} {q : pSt} (h : pOK8 pc lv st w = some (.inl q)) : q.2.2.2 = w := by
  obtain ⟨-, rfl⟩ := pOK8_inv h
  rfl
theorem pBr_m {pc : Nat} {dt : List Nat} {lv : pLv} {st : List Value} {w : pW} {c : Bool} {q : pSt} (h : pBr pc dt lv st w c = some (.inl q)) : q.2.2.2 = w := by
  unfold pBr pGo1 at h
  repeat' (first | (cases h; done) | (cases h; rfl) | split at h | (rcases pCond h with ⟨_, h⟩ | ⟨_, h⟩))
theorem pLd1_m {pc : Nat} {lv : pLv} {st : List Value} {w : pW} {v : Option Value} {q : pSt} (h : pLd1 pc lv st w v = some (.inl q)) : q.2.2.2 = w := by
  unfold pLd1 pGo1 at h
  repeat' (first | (cases h; done) | (cases h; rfl) | split at h | (rcases pCond h with ⟨_, h⟩ | ⟨_, h⟩))
theorem pLdL_m {pc : Nat} {lv : pLv} {st : List Value} {w : pW} {v : Option Value} {q : pSt} (h : pLdL pc lv st w v = some (.inl q)) : q.2.2.2 = w := by
  unfold pLdL pGo1 at h
  repeat' (first | (cases h; done) | (cases h; rfl) | split at h | (rcases pCond h with ⟨_, h⟩ | ⟨_, h⟩))
theorem pLdD_m {pc : Nat} {lv : pLv} {st : List Value} {w : pW} {v : Option Value} {q : pSt} (h : pLdD pc lv st w v = some (.inl q)) : q.2.2.2 = w := by
  unfold pLdD pGo1 at h
  repeat' (first | (cases h; done) | (cases h; rfl) | split at h | (rcases pCond h with ⟨_, h⟩ | ⟨_, h⟩))
theorem pLdA_m {pc : Nat} {lv : pLv} {st : List Value} {w : pW} {v : Option Value} {q : pSt} (h : pLdA pc lv st w v = some (.inl q)) : q.2.2.2 = w := by
  unfold pLdA pGo1 at h
  repeat' (first | (cases h; done) | (cases h; rfl) | split at h | (rcases pCond h with ⟨_, h⟩ | ⟨_, h⟩))
theorem pSt1_m {pc : Nat} {lv : pLv} {i : Nat} {st : List Value} {w : pW} {q : pSt} (h : pSt1 pc lv i st w = some (.inl q)) : q.2.2.2 = w := by
  unfold pSt1 pGo1 at h
  repeat' (first | (cases h; done) | (cases h; rfl) | split at h | (rcases pCond h with ⟨_, h⟩ | ⟨_, h⟩))
theorem pStL_m {pc : Nat} {lv : pLv} {i : Nat} {st : List Value} {w : pW} {q : pSt} (h : pStL pc lv i st w = some (.inl q)) : q.2.2.2 = w := by
  unfold pStL pGo1 at h
  repeat' (first | (cases h; done) | (cases h; rfl) | split at h | (rcases pCond h with ⟨_, h⟩ | ⟨_, h⟩))
theorem pStD_m {pc : Nat} {lv : pLv} {i : Nat} {st : List Value} {w : pW} {q : pSt} (h : pStD pc lv i st w = some (.inl q)) : q.2.2.2 = w := by
  unfold pStD pGo1 at h
  repeat' (first | (cases h; done) | (cases h; rfl) | split at h | (rcases pCond h with ⟨_, h⟩ | ⟨_, h⟩))
theorem pStA_m {pc : Nat} {lv : pLv} {i : Nat} {st : List Value} {w : pW} {q : pSt} (h : pStA pc lv i st w = some (.inl q)) : q.2.2.2 = w := by
  unfold pStA pGo1 at h
  repeat' (first | (cases h; done) | (cases h; rfl) | split at h | (rcases pCond h with ⟨_, h⟩ | ⟨_, h⟩))
theorem pII_m {pc : Nat} {lv : pLv} {st : List Value} {w : pW} {f : Int32 → Int32 → Value} {q : pSt} (h : pII pc lv st w f = some (.inl q)) : q.2.2.2 = w := by
  unfold pII pGo1 at h
  repeat' (first | (cases h; done) | (cases h; rfl) | split at h | (rcases pCond h with ⟨_, h⟩ | ⟨_, h⟩))
theorem pLL_m {pc : Nat} {lv : pLv} {st : List Value} {w : pW} {f : Int64 → Int64 → Value} {q : pSt} (h : pLL pc lv st w f = some (.inl q)) : q.2.2.2 = w := by
  unfold pLL pGo1 at h
  repeat' (first | (cases h; done) | (cases h; rfl) | split at h | (rcases pCond h with ⟨_, h⟩ | ⟨_, h⟩))
theorem pLI_m {pc : Nat} {lv : pLv} {st : List Value} {w : pW} {f : Int64 → Int32 → Value} {q : pSt} (h : pLI pc lv st w f = some (.inl q)) : q.2.2.2 = w := by
  unfold pLI pGo1 at h
  repeat' (first | (cases h; done) | (cases h; rfl) | split at h | (rcases pCond h with ⟨_, h⟩ | ⟨_, h⟩))
theorem pDD_m {pc : Nat} {lv : pLv} {st : List Value} {w : pW} {f : UInt64 → UInt64 → Value} {q : pSt} (h : pDD pc lv st w f = some (.inl q)) : q.2.2.2 = w := by
  unfold pDD pGo1 at h
  repeat' (first | (cases h; done) | (cases h; rfl) | split at h | (rcases pCond h with ⟨_, h⟩ | ⟨_, h⟩))
theorem pI1_m {pc : Nat} {lv : pLv} {st : List Value} {w : pW} {f : Int32 → Value} {q : pSt} (h : pI1 pc lv st w f = some (.inl q)) : q.2.2.2 = w := by
  unfold pI1 pGo1 at h
  repeat' (first | (cases h; done) | (cases h; rfl) | split at h | (rcases pCond h with ⟨_, h⟩ | ⟨_, h⟩))
theorem pL1_m {pc : Nat} {lv : pLv} {st : List Value} {w : pW} {f : Int64 → Value} {q : pSt} (h : pL1 pc lv st w f = some (.inl q)) : q.2.2.2 = w := by
  unfold pL1 pGo1 at h
  repeat' (first | (cases h; done) | (cases h; rfl) | split at h | (rcases pCond h with ⟨_, h⟩ | ⟨_, h⟩))
theorem pD1_m {pc : Nat} {lv : pLv} {st : List Value} {w : pW} {f : UInt64 → Value} {q : pSt} (h : pD1 pc lv st w f = some (.inl q)) : q.2.2.2 = w := by
  unfold pD1 pGo1 at h
  repeat' (first | (cases h; done) | (cases h; rfl) | split at h | (rcases pCond h with ⟨_, h⟩ | ⟨_, h⟩))
theorem pDup_m {pc : Nat} {lv : pLv} {st : List Value} {w : pW} {q : pSt} (h : pDup pc lv st w = some (.inl q)) : q.2.2.2 = w := by
  unfold pDup pGo1 at h
  repeat' (first | (cases h; done) | (cases h; rfl) | split at h | (rcases pCond h with ⟨_, h⟩ | ⟨_, h⟩))
theorem pPop_m {pc : Nat} {lv : pLv} {st : List Value} {w : pW} {q : pSt} (h : pPop pc lv st w = some (.inl q)) : q.2.2.2 = w := by
  unfold pPop pGo1 at h
  repeat' (first | (cases h; done) | (cases h; rfl) | split at h | (rcases pCond h with ⟨_, h⟩ | ⟨_, h⟩))
theorem pDup2_m {pc : Nat} {lv : pLv} {st : List Value} {w : pW} {q : pSt} (h : pDup2 pc lv st w = some (.inl q)) : q.2.2.2 = w := by
  unfold pDup2 pGo1 at h
  repeat' (first | (cases h; done) | (cases h; rfl) | split at h | (rcases pCond h with ⟨_, h⟩ | ⟨_, h⟩))
theorem pDiv_m {pc : Nat} {lv : pLv} {st : List Value} {w : pW} {f : Int32 → Int32 → Int32} {q : pSt} (h : pDiv pc lv st w f = some (.inl q)) : q.2.2.2 = w := by
  unfold pDiv pGo1 at h
  repeat' (first | (cases h; done) | (cases h; rfl) | split at h | (rcases pCond h with ⟨_, h⟩ | ⟨_, h⟩))
theorem pDivL_m {pc : Nat} {lv : pLv} {st : List Value} {w : pW} {f : Int64 → Int64 → Int64} {q : pSt} (h : pDivL pc lv st w f = some (.inl q)) : q.2.2.2 = w := by
  unfold pDivL pGo1 at h
  repeat' (first | (cases h; done) | (cases h; rfl) | split at h | (rcases pCond h with ⟨_, h⟩ | ⟨_, h⟩))
theorem pDivD_m {pc : Nat} {lv : pLv} {st : List Value} {w : pW} {f : UInt64 → UInt64 → UInt64} {q : pSt} (h : pDivD pc lv st w f = some (.inl q)) : q.2.2.2 = w := by
  unfold pDivD pGo1 at h
  repeat' (first | (cases h; done) | (cases h; rfl) | split at h | (rcases pCond h with ⟨_, h⟩ | ⟨_, h⟩))
theorem pK1_m {pc : Nat} {dt : List Nat} {lv : pLv} {st : List Value} {w : pW} {q : pSt} (h : pK1 pc dt lv st w = some (.inl q)) : q.2.2.2 = w := by
  unfold pK1 pGo1 at h
  repeat' (first | (cases h; done) | (cases h; rfl) | split at h | (rcases pCond h with ⟨_, h⟩ | ⟨_, h⟩))
theorem pLdc_m {pc : Nat} {dt : List Nat} {lv : pLv} {st : List Value} {w : pW} {q : pSt} (h : pLdc pc dt lv st w = some (.inl q)) : q.2.2.2 = w := by
  unfold pLdc pGo1 at h
  repeat' (first | (cases h; done) | (cases h; rfl) | split at h | (rcases pCond h with ⟨_, h⟩ | ⟨_, h⟩))
theorem pLdc2_m {pc : Nat} {dt : List Nat} {lv : pLv} {st : List Value} {w : pW} {q : pSt} (h : pLdc2 pc dt lv st w = some (.inl q)) : q.2.2.2 = w := by
  unfold pLdc2 pGo1 at h
  repeat' (first | (cases h; done) | (cases h; rfl) | split at h | (rcases pCond h with ⟨_, h⟩ | ⟨_, h⟩))
theorem pGoto_m {dt : List Nat} {lv : pLv} {st : List Value} {w : pW} {q : pSt} (h : pGoto dt lv st w = some (.inl q)) : q.2.2.2 = w := by
  unfold pGoto pGo1 at h
  repeat' (first | (cases h; done) | (cases h; rfl) | split at h | (rcases pCond h with ⟨_, h⟩ | ⟨_, h⟩))
theorem pInc_m {pc : Nat} {lv : pLv} {k : Nat} {n : Int} {st : List Value} {w : pW} {q : pSt} (h : pInc pc lv k n st w = some (.inl q)) : q.2.2.2 = w := by
  unfold pInc pGo1 at h
  repeat' (first | (cases h; done) | (cases h; rfl) | split at h | (rcases pCond h with ⟨_, h⟩ | ⟨_, h⟩))
theorem pALd_m {pc kd : Nat} {lv : pLv} {st : List Value} {w : pW} {q : pSt} (h : pALd pc kd lv st w = some (.inl q)) : q.2.2.2 = w := by
  unfold pALd pGo1 at h
  repeat' (first | (cases h; done) | (cases h; rfl) | split at h | (rcases pCond h with ⟨_, h⟩ | ⟨_, h⟩))
theorem pALdL_m {pc : Nat} {lv : pLv} {st : List Value} {w : pW} {q : pSt} (h : pALdL pc lv st w = some (.inl q)) : q.2.2.2 = w := by
  unfold pALdL pGo1 at h
  repeat' (first | (cases h; done) | (cases h; rfl) | split at h | (rcases pCond h with ⟨_, h⟩ | ⟨_, h⟩))
theorem pALen_m {pc : Nat} {lv : pLv} {st : List Value} {w : pW} {q : pSt} (h : pALen pc lv st w = some (.inl q)) : q.2.2.2 = w := by
  unfold pALen pGo1 at h
  repeat' (first | (cases h; done) | (cases h; rfl) | split at h | (rcases pCond h with ⟨_, h⟩ | ⟨_, h⟩))
theorem pGetF_m {pc : Nat} {dt : List Nat} {lv : pLv} {st : List Value} {w : pW} {q : pSt} (h : pGetF pc dt lv st w = some (.inl q)) : q.2.2.2 = w := by
  unfold pGetF pGo1 at h
  repeat' (first | (cases h; done) | (cases h; rfl) | split at h | (rcases pCond h with ⟨_, h⟩ | ⟨_, h⟩))
theorem pD2l_m {pc : Nat} {lv : pLv} {st : List Value} {w : pW} {q : pSt} (h : pD2l pc lv st w = some (.inl q)) : q.2.2.2 = w := by
  unfold pD2l at h
  split at h
  · exact pOK8_m h
  · cases h
theorem pNoRef_m {pc : Nat} {lv : pLv} {st : List Value} {w : pW} {q : pSt} (h : pNoRef pc lv st w = some (.inl q)) : q.2.2.2 = w := by
  unfold pNoRef at h
  split at h
  · exact pOK8_m h
  · cases h
theorem pTab_m {lo hi : Int} {dt : List Nat} {lv : pLv} {st : List Value} {w : pW} {q : pSt} (h : pTab lo hi dt lv st w = some (.inl q)) : q.2.2.2 = w := by
  unfold pTab pGo1 at h
  repeat' (first | (cases h; done) | (cases h; rfl) | split at h | (rcases pCond h with ⟨_, h⟩ | ⟨_, h⟩))
theorem pIf_m {pc : Nat} {dt : List Nat} {lv : pLv} {st : List Value} {w : pW} {f : Int32 → Bool} {q : pSt} (h : pIf pc dt lv st w f = some (.inl q)) : q.2.2.2 = w := by
  unfold pIf at h
  split at h
  · exact pBr_m h
  · cases h
theorem pIf2_m {pc : Nat} {dt : List Nat} {lv : pLv} {st : List Value} {w : pW} {f : Int32 → Int32 → Bool} {q : pSt} (h : pIf2 pc dt lv st w f = some (.inl q)) : q.2.2.2 = w := by
  unfold pIf2 at h
  split at h
  · exact pBr_m h
  · cases h
theorem pGo1_m {pc : Nat} {lv : pLv} {st : List Value} {w : pW} {q : pSt} (h : pGo1 pc lv st w = some (.inl q)) : q.2.2.2 = w := by
  unfold pGo1 at h
  cases h
  rfl
theorem pPutF_m {pc : Nat} {dt : List Nat} {lv : pLv} {st : List Value} {w : pW} {q : pSt} (h : pPutF pc dt lv st w = some (.inl q)) : pLe w q.2.2.2 := by
  unfold pPutF pGo1 at h
  split at h
  · split at h
    · rename_i hw
      rcases pCond h with ⟨_, h⟩ | ⟨_, h⟩
      · cases h
        exact pLe.set hw (by simp [pcsz])
      · cases h
    · cases h
  · cases h
theorem pASt_m {pc : Nat} {lv : pLv} {st : List Value} {w : pW} {q : pSt} (h : pASt pc lv st w = some (.inl q)) : pLe w q.2.2.2 := by
  unfold pASt pGo1 at h
  split at h
  · split at h
    · rename_i hw
      rcases pCond h with ⟨_, h⟩ | ⟨_, h⟩
      · cases h
        exact pLe.set hw rfl
      · cases h
    · cases h
  · cases h
theorem pAStZ_m {pc : Nat} {lv : pLv} {st : List Value} {w : pW} {q : pSt} (h : pAStZ pc lv st w = some (.inl q)) : pLe w q.2.2.2 := by
  unfold pAStZ pGo1 at h
  split at h
  · split at h
    · rename_i hw
      rcases pCond h with ⟨_, h⟩ | ⟨_, h⟩
      · cases h
        exact pLe.set hw rfl
      · cases h
    · cases h
  · cases h
theorem pAStL_m {pc : Nat} {lv : pLv} {st : List Value} {w : pW} {q : pSt} (h : pAStL pc lv st w = some (.inl q)) : pLe w q.2.2.2 := by
  unfold pAStL pGo1 at h
  split at h
  · split at h
    · rename_i hw
      rcases pCond h with ⟨_, h⟩ | ⟨_, h⟩
      · cases h
        exact pLe.set hw rfl
      · cases h
    · cases h
  · cases h
theorem pNewA_m {pc : Nat} {dt : List Nat} {lv : pLv} {st : List Value} {w : pW} {q : pSt} (h : pNewA pc dt lv st w = some (.inl q)) : pLe w q.2.2.2 := by
  unfold pNewA pGo1 at h
  split at h
  · rcases pCond h with ⟨_, h⟩ | ⟨_, h⟩
    · cases h
      exact pLe.app
    · cases h
  · cases h
theorem pNewO_m {pc : Nat} {dt : List Nat} {lv : pLv} {st : List Value} {w : pW} {q : pSt} (h : pNewO pc dt lv st w = some (.inl q)) : pLe w q.2.2.2 := by
  unfold pNewO pGo1 at h
  split at h
  · cases h
    exact pLe.app
  · cases h
theorem pCopy_m {pc : Nat} {lv : pLv} {st : List Value} {w : pW} {q : pSt} (h : pCopy pc lv st w = some (.inl q)) : pLe w q.2.2.2 := by
  unfold pCopy at h
  split at h
  · rcases pCond h with ⟨_, h⟩ | ⟨_, h⟩
    · split at h
      · rename_i hw0 hw1
        rcases pCond h with ⟨_, h⟩ | ⟨_, h⟩
        · rw [pOK8_m h]
          exact pLe.set hw1 rfl
        · cases h
      · rename_i hw0 hw1
        rcases pCond h with ⟨_, h⟩ | ⟨_, h⟩
        · rw [pOK8_m h]
          exact pLe.set hw1 rfl
        · cases h
      · cases h
    · cases h
  · cases h
theorem pLe.eq {w w' : pW} (h : w' = w) : pLe w w' := by rw [h]; exact pLe.rf
theorem pALdA_m {pc : Nat} {lv : pLv} {st : List Value} {w : pW} {q : pSt} (h : pALdA pc lv st w = some (.inl q)) : q.2.2.2 = w := by
  unfold pALdA pGo1 at h
  repeat' (first | (cases h; done) | (cases h; rfl) | split at h | (rcases pCond h with ⟨_, h⟩ | ⟨_, h⟩))
theorem pCast_m {pc : Nat} {lv : pLv} {st : List Value} {w : pW} {q : pSt} (h : pCast pc lv st w = some (.inl q)) : q.2.2.2 = w := by
  unfold pCast pGo1 at h
  repeat' (first | (cases h; done) | (cases h; rfl) | split at h | (rcases pCond h with ⟨_, h⟩ | ⟨_, h⟩))
theorem pIfN_m {pc : Nat} {dt : List Nat} {lv : pLv} {st : List Value} {w : pW} {y : Bool} {q : pSt} (h : pIfN pc dt lv st w y = some (.inl q)) : q.2.2.2 = w := by
  unfold pIfN at h
  split at h
  · exact pBr_m h
  · exact pBr_m h
  · cases h
theorem pLe.apps {w w2 : pW} : pLe w (w ++ w2) := by
  refine ⟨by simp, ?_⟩
  rw [pwsz_apps]
  exact Nat.le_add_right _ _
theorem pAStA_m {pc : Nat} {lv : pLv} {st : List Value} {w : pW} {q : pSt} (h : pAStA pc lv st w = some (.inl q)) : pLe w q.2.2.2 := by
  unfold pAStA pGo1 at h
  split at h
  · split at h
    · rename_i hw
      rcases pCond h with ⟨_, h⟩ | ⟨_, h⟩
      · cases h
        exact pLe.set hw rfl
      · cases h
    · cases h
  · split at h
    · rename_i hw
      rcases pCond h with ⟨_, h⟩ | ⟨_, h⟩
      · cases h
        exact pLe.set hw rfl
      · cases h
    · cases h
  · cases h
theorem pANew_m {pc : Nat} {dt : List Nat} {lv : pLv} {st : List Value} {w : pW} {q : pSt} (h : pANew pc dt lv st w = some (.inl q)) : pLe w q.2.2.2 := by
  unfold pANew pGo1 at h
  split at h
  · rcases pCond h with ⟨_, h⟩ | ⟨_, h⟩
    · cases h
      exact pLe.app
    · cases h
  · cases h
theorem pMNew_m {pc : Nat} {lv : pLv} {st : List Value} {w : pW} {q : pSt} (h : pMNew pc lv st w = some (.inl q)) : pLe w q.2.2.2 := by
  unfold pMNew pGo1 at h
  split at h
  · rcases pCond h with ⟨_, h⟩ | ⟨_, h⟩
    · cases h
      exact pLe.apps
    · cases h
  · cases h
theorem pClone_m {pc : Nat} {lv : pLv} {st : List Value} {w : pW} {q : pSt} (h : pClone pc lv st w = some (.inl q)) : pLe w q.2.2.2 := by
  unfold pClone pGo1 at h
  split at h
  · split at h
    · rcases pCond h with ⟨_, h⟩ | ⟨_, h⟩
      · cases h
        exact pLe.app
      · cases h
    · cases h
  · cases h
theorem pCall_m {pc : Nat} {dt : List Nat} {lv : pLv} {st : List Value} {w : pW} {q : pSt} (h : pCall pc dt lv st w = some (.inl q)) : pLe w q.2.2.2 := by
  unfold pCall at h
  split at h
  · split at h
    · exact pLe.eq (pNoRef_m h)
    · exact (pCallI_no h).elim
    · exact (pCallS_no h).elim
    · exact (pCallI_no h).elim
    · exact (pCallS_no h).elim
    · exact (pCallI_no h).elim
    · exact pCopy_m h
    · exact pLe.eq (pD2l_m h)
    · exact pClone_m h
    · cases h
  · cases h
theorem pS1_m {ins : Instr} {pc : Nat} {dt : List Nat} {lv : pLv} {st : List Value} {w : pW} {q : pSt} (h : pS1 ins pc dt lv st w = some (.inl q)) : pLe w q.2.2.2 := by
  cases ins with
  | iconst n => exact pLe.eq (pK1_m h)
  | bipush n => exact pLe.eq (pK1_m h)
  | sipush n => exact pLe.eq (pK1_m h)
  | lconst n => exact pLe.eq (pGo1_m h)
  | iload_n j => exact pLe.eq (pLd1_m h)
  | iload j => exact pLe.eq (pLd1_m h)
  | lload_n j => exact pLe.eq (pLdL_m h)
  | lload j => exact pLe.eq (pLdL_m h)
  | aload_n j => exact pLe.eq (pLdA_m h)
  | dload_n j => exact pLe.eq (pLdD_m h)
  | istore_n j => exact pLe.eq (pSt1_m h)
  | istore j => exact pLe.eq (pSt1_m h)
  | lstore_n j => exact pLe.eq (pStL_m h)
  | lstore j => exact pLe.eq (pStL_m h)
  | astore_n j => exact pLe.eq (pStA_m h)
  | dstore_n j => exact pLe.eq (pStD_m h)
  | iinc j n => exact pLe.eq (pInc_m h)
  | iadd => exact pLe.eq (pII_m h)
  | isub => exact pLe.eq (pII_m h)
  | imul => exact pLe.eq (pII_m h)
  | iand => exact pLe.eq (pII_m h)
  | ixor => exact pLe.eq (pII_m h)
  | ladd => exact pLe.eq (pLL_m h)
  | lsub => exact pLe.eq (pLL_m h)
  | lmul => exact pLe.eq (pLL_m h)
  | land => exact pLe.eq (pLL_m h)
  | lor => exact pLe.eq (pLL_m h)
  | lxor => exact pLe.eq (pLL_m h)
  | lcmp => exact pLe.eq (pLL_m h)
  | idiv => exact pLe.eq (pDiv_m h)
  | irem => exact pLe.eq (pDiv_m h)
  | ldiv => exact pLe.eq (pDivL_m h)
  | ddiv => exact pLe.eq (pDivD_m h)
  | dmul => exact pLe.eq (pDivD_m h)
  | ineg => exact pLe.eq (pI1_m h)
  | i2l => exact pLe.eq (pI1_m h)
  | i2d => exact pLe.eq (pI1_m h)
  | lneg => exact pLe.eq (pL1_m h)
  | l2i => exact pLe.eq (pL1_m h)
  | l2d => exact pLe.eq (pL1_m h)
  | d2l => exact pLe.eq (pD1_m h)
  | lushr => exact pLe.eq (pLI_m h)
  | lshl => exact pLe.eq (pLI_m h)
  | dcmp op => exact pLe.eq (pDD_m h)
  | dup => exact pLe.eq (pDup_m h)
  | pop => exact pLe.eq (pPop_m h)
  | dup2 => exact pLe.eq (pDup2_m h)
  | goto o => exact pLe.eq (pGoto_m h)
  | tableswitch a b c d => exact pLe.eq (pTab_m h)
  | ldc n => exact pLe.eq (pLdc_m h)
  | ldc_w n => exact pLe.eq (pLdc_m h)
  | ldc2_w n => exact pLe.eq (pLdc2_m h)
  | getfield n => exact pLe.eq (pGetF_m h)
  | iaload => exact pLe.eq (pALd_m h)
  | baload => exact pLe.eq (pALd_m h)
  | laload => exact pLe.eq (pALdL_m h)
  | aload j => exact pLe.eq (pLdA_m h)
  | astore j => exact pLe.eq (pStA_m h)
  | aconst_null => exact pLe.eq (pGo1_m h)
  | ior => exact pLe.eq (pII_m h)
  | ishl => exact pLe.eq (pII_m h)
  | ishr => exact pLe.eq (pII_m h)
  | iushr => exact pLe.eq (pII_m h)
  | ifnull n => exact pLe.eq (pIfN_m h)
  | ifnonnull n => exact pLe.eq (pIfN_m h)
  | aaload => exact pLe.eq (pALdA_m h)
  | aastore => exact pAStA_m h
  | anewarray n => exact pANew_m h
  | multianewarray n k => exact pMNew_m h
  | checkcast n => exact pLe.eq (pCast_m h)
  | areturn => exact (pAret_no h).elim
  | arraylength => exact pLe.eq (pALen_m h)
  | putfield n => exact pPutF_m h
  | iastore => exact pASt_m h
  | bastore => exact pAStZ_m h
  | lastore => exact pAStL_m h
  | newarray t => exact pNewA_m h
  | new n => exact pNewO_m h
  | invokevirtual n => exact pCall_m h
  | invokespecial n => exact pCall_m h
  | invokestatic n => exact pCall_m h
  | ifCond kc off => cases kc <;> exact pLe.eq (pIf_m h)
  | if_icmp kc off => cases kc <;> exact pLe.eq (pIf2_m h)
  | ireturn => exact (pIret_no h).elim
  | lreturn => exact (pLret_no h).elim
  | return_ => exact (pVret_no h).elim
  | _ => exact (by have h2 : (none : Option pOut) = some (.inl q) := h; cases h2)
theorem pGo_m : ∀ (n i : Nat) (q : pSt) (r : Option Value) (wF : pW), pGo n i q = some (r, wF) → pLe q.2.2.2 wF := by
  intro n
  induction n with
  | zero => intro i q r wF h; cases h
  | succ n ih =>
    intro i q r wF h
    rw [pGo_succ] at h
    unfold pStep at h
    split at h
    · cases h
    · rename_i ins dt hI
      unfold pThen at h
      split at h
      · cases h
      · rename_i q1 h1
        exact (pS1_m h1).tr (ih _ _ _ _ h)
      · rename_i j as rest h1
        split at h
        · cases h
        · rename_i r1 w1 h2
          exact (ih _ _ _ _ h2).tr (ih _ _ _ _ h)
      · cases h
        exact pLe.rf
