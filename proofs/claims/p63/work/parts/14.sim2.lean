/-! A RUN OF THE PLAIN MACHINE IS A RUN OF THE MACHINE: the theorem. -/
theorem pGo1_c {pc : Nat} {lv : pLv} {st : List Value} {w : pW} {y : (Nat × List Value × List Value) ⊕ Option Value} (h : pGo1 pc lv st w = some (.inr y)) : False := by
  unfold pGo1 at h
  repeat' (first | (cases h; done) | split at h | (rcases pCond h with ⟨_, h⟩ | ⟨_, h⟩))
theorem pOK8_c {pc : Nat} {lv : pLv} {st : List Value} {w : pW} {y : (Nat × List Value × List Value) ⊕ Option Value} (h : pOK8 pc lv st w = some (.inr y)) : False := by
  unfold pOK8 pGo1 at h
  repeat' (first | (cases h; done) | split at h | (rcases pCond h with ⟨_, h⟩ | ⟨_, h⟩))
theorem pBr_c {pc : Nat} {dt : List Nat} {lv : pLv} {st : List Value} {w : pW} {c : Bool} {y : (Nat × List Value × List Value) ⊕ Option Value} (h : pBr pc dt lv st w c = some (.inr y)) : False := by
  unfold pBr pGo1 at h
  repeat' (first | (cases h; done) | split at h | (rcases pCond h with ⟨_, h⟩ | ⟨_, h⟩))
theorem pLd1_c {pc : Nat} {lv : pLv} {st : List Value} {w : pW} {v : Option Value} {y : (Nat × List Value × List Value) ⊕ Option Value} (h : pLd1 pc lv st w v = some (.inr y)) : False := by
  unfold pLd1 pGo1 at h
  repeat' (first | (cases h; done) | split at h | (rcases pCond h with ⟨_, h⟩ | ⟨_, h⟩))
theorem pLdL_c {pc : Nat} {lv : pLv} {st : List Value} {w : pW} {v : Option Value} {y : (Nat × List Value × List Value) ⊕ Option Value} (h : pLdL pc lv st w v = some (.inr y)) : False := by
  unfold pLdL pGo1 at h
  repeat' (first | (cases h; done) | split at h | (rcases pCond h with ⟨_, h⟩ | ⟨_, h⟩))
theorem pLdD_c {pc : Nat} {lv : pLv} {st : List Value} {w : pW} {v : Option Value} {y : (Nat × List Value × List Value) ⊕ Option Value} (h : pLdD pc lv st w v = some (.inr y)) : False := by
  unfold pLdD pGo1 at h
  repeat' (first | (cases h; done) | split at h | (rcases pCond h with ⟨_, h⟩ | ⟨_, h⟩))
theorem pLdA_c {pc : Nat} {lv : pLv} {st : List Value} {w : pW} {v : Option Value} {y : (Nat × List Value × List Value) ⊕ Option Value} (h : pLdA pc lv st w v = some (.inr y)) : False := by
  unfold pLdA pGo1 at h
  repeat' (first | (cases h; done) | split at h | (rcases pCond h with ⟨_, h⟩ | ⟨_, h⟩))
theorem pSt1_c {pc : Nat} {lv : pLv} {i : Nat} {st : List Value} {w : pW} {y : (Nat × List Value × List Value) ⊕ Option Value} (h : pSt1 pc lv i st w = some (.inr y)) : False := by
  unfold pSt1 pGo1 at h
  repeat' (first | (cases h; done) | split at h | (rcases pCond h with ⟨_, h⟩ | ⟨_, h⟩))
theorem pStL_c {pc : Nat} {lv : pLv} {i : Nat} {st : List Value} {w : pW} {y : (Nat × List Value × List Value) ⊕ Option Value} (h : pStL pc lv i st w = some (.inr y)) : False := by
  unfold pStL pGo1 at h
  repeat' (first | (cases h; done) | split at h | (rcases pCond h with ⟨_, h⟩ | ⟨_, h⟩))
theorem pStD_c {pc : Nat} {lv : pLv} {i : Nat} {st : List Value} {w : pW} {y : (Nat × List Value × List Value) ⊕ Option Value} (h : pStD pc lv i st w = some (.inr y)) : False := by
  unfold pStD pGo1 at h
  repeat' (first | (cases h; done) | split at h | (rcases pCond h with ⟨_, h⟩ | ⟨_, h⟩))
theorem pStA_c {pc : Nat} {lv : pLv} {i : Nat} {st : List Value} {w : pW} {y : (Nat × List Value × List Value) ⊕ Option Value} (h : pStA pc lv i st w = some (.inr y)) : False := by
  unfold pStA pGo1 at h
  repeat' (first | (cases h; done) | split at h | (rcases pCond h with ⟨_, h⟩ | ⟨_, h⟩))
theorem pII_c {pc : Nat} {lv : pLv} {st : List Value} {w : pW} {f : Int32 → Int32 → Value} {y : (Nat × List Value × List Value) ⊕ Option Value} (h : pII pc lv st w f = some (.inr y)) : False := by
  unfold pII pGo1 at h
  repeat' (first | (cases h; done) | split at h | (rcases pCond h with ⟨_, h⟩ | ⟨_, h⟩))
theorem pLL_c {pc : Nat} {lv : pLv} {st : List Value} {w : pW} {f : Int64 → Int64 → Value} {y : (Nat × List Value × List Value) ⊕ Option Value} (h : pLL pc lv st w f = some (.inr y)) : False := by
  unfold pLL pGo1 at h
  repeat' (first | (cases h; done) | split at h | (rcases pCond h with ⟨_, h⟩ | ⟨_, h⟩))
theorem pLI_c {pc : Nat} {lv : pLv} {st : List Value} {w : pW} {f : Int64 → Int32 → Value} {y : (Nat × List Value × List Value) ⊕ Option Value} (h : pLI pc lv st w f = some (.inr y)) : False := by
  unfold pLI pGo1 at h
  repeat' (first | (cases h; done) | split at h | (rcases pCond h with ⟨_, h⟩ | ⟨_, h⟩))
theorem pDD_c {pc : Nat} {lv : pLv} {st : List Value} {w : pW} {f : UInt64 → UInt64 → Value} {y : (Nat × List Value × List Value) ⊕ Option Value} (h : pDD pc lv st w f = some (.inr y)) : False := by
  unfold pDD pGo1 at h
  repeat' (first | (cases h; done) | split at h | (rcases pCond h with ⟨_, h⟩ | ⟨_, h⟩))
theorem pI1_c {pc : Nat} {lv : pLv} {st : List Value} {w : pW} {f : Int32 → Value} {y : (Nat × List Value × List Value) ⊕ Option Value} (h : pI1 pc lv st w f = some (.inr y)) : False := by
  unfold pI1 pGo1 at h
  repeat' (first | (cases h; done) | split at h | (rcases pCond h with ⟨_, h⟩ | ⟨_, h⟩))
theorem pL1_c {pc : Nat} {lv : pLv} {st : List Value} {w : pW} {f : Int64 → Value} {y : (Nat × List Value × List Value) ⊕ Option Value} (h : pL1 pc lv st w f = some (.inr y)) : False := by
  unfold pL1 pGo1 at h
  repeat' (first | (cases h; done) | split at h | (rcases pCond h with ⟨_, h⟩ | ⟨_, h⟩))
theorem pD1_c {pc : Nat} {lv : pLv} {st : List Value} {w : pW} {f : UInt64 → Value} {y : (Nat × List Value × List Value) ⊕ Option Value} (h : pD1 pc lv st w f = some (.inr y)) : False := by
  unfold pD1 pGo1 at h
  repeat' (first | (cases h; done) | split at h | (rcases pCond h with ⟨_, h⟩ | ⟨_, h⟩))
theorem pDup_c {pc : Nat} {lv : pLv} {st : List Value} {w : pW} {y : (Nat × List Value × List Value) ⊕ Option Value} (h : pDup pc lv st w = some (.inr y)) : False := by
  unfold pDup pGo1 at h
  repeat' (first | (cases h; done) | split at h | (rcases pCond h with ⟨_, h⟩ | ⟨_, h⟩))
theorem pPop_c {pc : Nat} {lv : pLv} {st : List Value} {w : pW} {y : (Nat × List Value × List Value) ⊕ Option Value} (h : pPop pc lv st w = some (.inr y)) : False := by
  unfold pPop pGo1 at h
  repeat' (first | (cases h; done) | split at h | (rcases pCond h with ⟨_, h⟩ | ⟨_, h⟩))
theorem pDup2_c {pc : Nat} {lv : pLv} {st : List Value} {w : pW} {y : (Nat × List Value × List Value) ⊕ Option Value} (h : pDup2 pc lv st w = some (.inr y)) : False := by
  unfold pDup2 pGo1 at h
  repeat' (first | (cases h; done) | split at h | (rcases pCond h with ⟨_, h⟩ | ⟨_, h⟩))
theorem pDiv_c {pc : Nat} {lv : pLv} {st : List Value} {w : pW} {f : Int32 → Int32 → Int32} {y : (Nat × List Value × List Value) ⊕ Option Value} (h : pDiv pc lv st w f = some (.inr y)) : False := by
  unfold pDiv pGo1 at h
  repeat' (first | (cases h; done) | split at h | (rcases pCond h with ⟨_, h⟩ | ⟨_, h⟩))
theorem pDivL_c {pc : Nat} {lv : pLv} {st : List Value} {w : pW} {f : Int64 → Int64 → Int64} {y : (Nat × List Value × List Value) ⊕ Option Value} (h : pDivL pc lv st w f = some (.inr y)) : False := by
  unfold pDivL pGo1 at h
  repeat' (first | (cases h; done) | split at h | (rcases pCond h with ⟨_, h⟩ | ⟨_, h⟩))
theorem pDivD_c {pc : Nat} {lv : pLv} {st : List Value} {w : pW} {f : UInt64 → UInt64 → UInt64} {y : (Nat × List Value × List Value) ⊕ Option Value} (h : pDivD pc lv st w f = some (.inr y)) : False := by
  unfold pDivD pGo1 at h
  repeat' (first | (cases h; done) | split at h | (rcases pCond h with ⟨_, h⟩ | ⟨_, h⟩))
theorem pK1_c {pc : Nat} {dt : List Nat} {lv : pLv} {st : List Value} {w : pW} {y : (Nat × List Value × List Value) ⊕ Option Value} (h : pK1 pc dt lv st w = some (.inr y)) : False := by
  unfold pK1 pGo1 at h
  repeat' (first | (cases h; done) | split at h | (rcases pCond h with ⟨_, h⟩ | ⟨_, h⟩))
theorem pLdc_c {pc : Nat} {dt : List Nat} {lv : pLv} {st : List Value} {w : pW} {y : (Nat × List Value × List Value) ⊕ Option Value} (h : pLdc pc dt lv st w = some (.inr y)) : False := by
  unfold pLdc pGo1 at h
  repeat' (first | (cases h; done) | split at h | (rcases pCond h with ⟨_, h⟩ | ⟨_, h⟩))
theorem pLdc2_c {pc : Nat} {dt : List Nat} {lv : pLv} {st : List Value} {w : pW} {y : (Nat × List Value × List Value) ⊕ Option Value} (h : pLdc2 pc dt lv st w = some (.inr y)) : False := by
  unfold pLdc2 pGo1 at h
  repeat' (first | (cases h; done) | split at h | (rcases pCond h with ⟨_, h⟩ | ⟨_, h⟩))
theorem pGoto_c {dt : List Nat} {lv : pLv} {st : List Value} {w : pW} {y : (Nat × List Value × List Value) ⊕ Option Value} (h : pGoto dt lv st w = some (.inr y)) : False := by
  unfold pGoto pGo1 at h
  repeat' (first | (cases h; done) | split at h | (rcases pCond h with ⟨_, h⟩ | ⟨_, h⟩))
theorem pInc_c {pc : Nat} {lv : pLv} {k : Nat} {n : Int} {st : List Value} {w : pW} {y : (Nat × List Value × List Value) ⊕ Option Value} (h : pInc pc lv k n st w = some (.inr y)) : False := by
  unfold pInc pGo1 at h
  repeat' (first | (cases h; done) | split at h | (rcases pCond h with ⟨_, h⟩ | ⟨_, h⟩))
theorem pALd_c {pc kd : Nat} {lv : pLv} {st : List Value} {w : pW} {y : (Nat × List Value × List Value) ⊕ Option Value} (h : pALd pc kd lv st w = some (.inr y)) : False := by
  unfold pALd pGo1 at h
  repeat' (first | (cases h; done) | split at h | (rcases pCond h with ⟨_, h⟩ | ⟨_, h⟩))
theorem pALdL_c {pc : Nat} {lv : pLv} {st : List Value} {w : pW} {y : (Nat × List Value × List Value) ⊕ Option Value} (h : pALdL pc lv st w = some (.inr y)) : False := by
  unfold pALdL pGo1 at h
  repeat' (first | (cases h; done) | split at h | (rcases pCond h with ⟨_, h⟩ | ⟨_, h⟩))
theorem pALen_c {pc : Nat} {lv : pLv} {st : List Value} {w : pW} {y : (Nat × List Value × List Value) ⊕ Option Value} (h : pALen pc lv st w = some (.inr y)) : False := by
  unfold pALen pGo1 at h
  repeat' (first | (cases h; done) | split at h | (rcases pCond h with ⟨_, h⟩ | ⟨_, h⟩))
theorem pGetF_c {pc : Nat} {dt : List Nat} {lv : pLv} {st : List Value} {w : pW} {y : (Nat × List Value × List Value) ⊕ Option Value} (h : pGetF pc dt lv st w = some (.inr y)) : False := by
  unfold pGetF pGo1 at h
  repeat' (first | (cases h; done) | split at h | (rcases pCond h with ⟨_, h⟩ | ⟨_, h⟩))
theorem pD2l_c {pc : Nat} {lv : pLv} {st : List Value} {w : pW} {y : (Nat × List Value × List Value) ⊕ Option Value} (h : pD2l pc lv st w = some (.inr y)) : False := by
  unfold pD2l pOK8 pGo1 at h
  repeat' (first | (cases h; done) | split at h | (rcases pCond h with ⟨_, h⟩ | ⟨_, h⟩))
theorem pNoRef_c {pc : Nat} {lv : pLv} {st : List Value} {w : pW} {y : (Nat × List Value × List Value) ⊕ Option Value} (h : pNoRef pc lv st w = some (.inr y)) : False := by
  unfold pNoRef pOK8 pGo1 at h
  repeat' (first | (cases h; done) | split at h | (rcases pCond h with ⟨_, h⟩ | ⟨_, h⟩))
theorem pTab_c {lo hi : Int} {dt : List Nat} {lv : pLv} {st : List Value} {w : pW} {y : (Nat × List Value × List Value) ⊕ Option Value} (h : pTab lo hi dt lv st w = some (.inr y)) : False := by
  unfold pTab pGo1 at h
  repeat' (first | (cases h; done) | split at h | (rcases pCond h with ⟨_, h⟩ | ⟨_, h⟩))
theorem pPutF_c {pc : Nat} {dt : List Nat} {lv : pLv} {st : List Value} {w : pW} {y : (Nat × List Value × List Value) ⊕ Option Value} (h : pPutF pc dt lv st w = some (.inr y)) : False := by
  unfold pPutF pGo1 at h
  repeat' (first | (cases h; done) | split at h | (rcases pCond h with ⟨_, h⟩ | ⟨_, h⟩))
theorem pASt_c {pc : Nat} {lv : pLv} {st : List Value} {w : pW} {y : (Nat × List Value × List Value) ⊕ Option Value} (h : pASt pc lv st w = some (.inr y)) : False := by
  unfold pASt pGo1 at h
  repeat' (first | (cases h; done) | split at h | (rcases pCond h with ⟨_, h⟩ | ⟨_, h⟩))
theorem pAStZ_c {pc : Nat} {lv : pLv} {st : List Value} {w : pW} {y : (Nat × List Value × List Value) ⊕ Option Value} (h : pAStZ pc lv st w = some (.inr y)) : False := by
  unfold pAStZ pGo1 at h
  repeat' (first | (cases h; done) | split at h | (rcases pCond h with ⟨_, h⟩ | ⟨_, h⟩))
theorem pAStL_c {pc : Nat} {lv : pLv} {st : List Value} {w : pW} {y : (Nat × List Value × List Value) ⊕ Option Value} (h : pAStL pc lv st w = some (.inr y)) : False := by
  unfold pAStL pGo1 at h
  repeat' (first | (cases h; done) | split at h | (rcases pCond h with ⟨_, h⟩ | ⟨_, h⟩))
theorem pNewA_c {pc : Nat} {dt : List Nat} {lv : pLv} {st : List Value} {w : pW} {y : (Nat × List Value × List Value) ⊕ Option Value} (h : pNewA pc dt lv st w = some (.inr y)) : False := by
  unfold pNewA pGo1 at h
  repeat' (first | (cases h; done) | split at h | (rcases pCond h with ⟨_, h⟩ | ⟨_, h⟩))
theorem pNewO_c {pc : Nat} {dt : List Nat} {lv : pLv} {st : List Value} {w : pW} {y : (Nat × List Value × List Value) ⊕ Option Value} (h : pNewO pc dt lv st w = some (.inr y)) : False := by
  unfold pNewO pGo1 at h
  repeat' (first | (cases h; done) | split at h | (rcases pCond h with ⟨_, h⟩ | ⟨_, h⟩))
theorem pCopy_c {pc : Nat} {lv : pLv} {st : List Value} {w : pW} {y : (Nat × List Value × List Value) ⊕ Option Value} (h : pCopy pc lv st w = some (.inr y)) : False := by
  unfold pCopy pOK8 pGo1 at h
  repeat' (first | (cases h; done) | split at h | (rcases pCond h with ⟨_, h⟩ | ⟨_, h⟩))
theorem pALdA_c {pc : Nat} {lv : pLv} {st : List Value} {w : pW} {y : (Nat × List Value × List Value) ⊕ Option Value} (h : pALdA pc lv st w = some (.inr y)) : False := by
  unfold pALdA pGo1 at h
  repeat' (first | (cases h; done) | split at h | (rcases pCond h with ⟨_, h⟩ | ⟨_, h⟩))
theorem pCast_c {pc : Nat} {lv : pLv} {st : List Value} {w : pW} {y : (Nat × List Value × List Value) ⊕ Option Value} (h : pCast pc lv st w = some (.inr y)) : False := by
  unfold pCast pGo1 at h
  repeat' (first | (cases h; done) | split at h | (rcases pCond h with ⟨_, h⟩ | ⟨_, h⟩))
theorem pAStA_c {pc : Nat} {lv : pLv} {st : List Value} {w : pW} {y : (Nat × List Value × List Value) ⊕ Option Value} (h : pAStA pc lv st w = some (.inr y)) : False := by
  unfold pAStA pGo1 at h
  repeat' (first | (cases h; done) | split at h | (rcases pCond h with ⟨_, h⟩ | ⟨_, h⟩))
theorem pANew_c {pc : Nat} {dt : List Nat} {lv : pLv} {st : List Value} {w : pW} {y : (Nat × List Value × List Value) ⊕ Option Value} (h : pANew pc dt lv st w = some (.inr y)) : False := by
  unfold pANew pGo1 at h
  repeat' (first | (cases h; done) | split at h | (rcases pCond h with ⟨_, h⟩ | ⟨_, h⟩))
theorem pMNew_c {pc : Nat} {lv : pLv} {st : List Value} {w : pW} {y : (Nat × List Value × List Value) ⊕ Option Value} (h : pMNew pc lv st w = some (.inr y)) : False := by
  unfold pMNew pGo1 at h
  repeat' (first | (cases h; done) | split at h | (rcases pCond h with ⟨_, h⟩ | ⟨_, h⟩))
theorem pIfN_c {pc : Nat} {dt : List Nat} {lv : pLv} {st : List Value} {w : pW} {g : Bool} {y : (Nat × List Value × List Value) ⊕ Option Value} (h : pIfN pc dt lv st w g = some (.inr y)) : False := by
  unfold pIfN at h
  split at h
  · exact pBr_c h
  · exact pBr_c h
  · cases h
theorem pAret_c {st : List Value} {y : Nat × List Value × List Value} (h : pAret st = some (.inr (.inl y))) : False := by
  unfold pAret at h
  split at h <;> cases h
theorem pIf_c {pc : Nat} {dt : List Nat} {lv : pLv} {st : List Value} {w : pW} {f : Int32 → Bool} {y : (Nat × List Value × List Value) ⊕ Option Value} (h : pIf pc dt lv st w f = some (.inr y)) : False := by
  unfold pIf at h
  split at h
  · exact pBr_c h
  · cases h
theorem pIf2_c {pc : Nat} {dt : List Nat} {lv : pLv} {st : List Value} {w : pW} {f : Int32 → Int32 → Bool} {y : (Nat × List Value × List Value) ⊕ Option Value} (h : pIf2 pc dt lv st w f = some (.inr y)) : False := by
  unfold pIf2 at h
  split at h
  · exact pBr_c h
  · cases h
theorem pIret_c {dt : List Nat} {st : List Value} {y : Nat × List Value × List Value} (h : pIret dt st = some (.inr (.inl y))) : False := by
  unfold pIret at h
  split at h
  · cases h
  · rcases pCond h with ⟨_, h⟩ | ⟨_, h⟩ <;> cases h
  · cases h
theorem pLret_c {st : List Value} {y : Nat × List Value × List Value} (h : pLret st = some (.inr (.inl y))) : False := by
  unfold pLret at h
  split at h <;> cases h
theorem pVret_c {st : List Value} {y : Nat × List Value × List Value} (h : pVret st = some (.inr (.inl y))) : False := by
  unfold pVret at h
  split at h <;> cases h
theorem pCallI_r {j n ci mx : Nat} {st : List Value} {w : pW} {y : Option Value} (h : pCallI j n ci mx st w = some (.inr (.inr y))) : False := by
  unfold pCallI at h
  split at h
  · split at h
    · rcases pCond h with ⟨_, h⟩ | ⟨_, h⟩ <;> cases h
    · cases h
  · cases h
theorem pCallS_r {j n mx : Nat} {st : List Value} {y : Option Value} (h : pCallS j n mx st = some (.inr (.inr y))) : False := by
  unfold pCallS at h
  split at h
  · rcases pCond h with ⟨_, h⟩ | ⟨_, h⟩ <;> cases h
  · cases h
theorem pCall_r {pc : Nat} {dt : List Nat} {lv : pLv} {st : List Value} {w : pW} {y : Option Value} (h : pCall pc dt lv st w = some (.inr (.inr y))) : False := by
  unfold pCall at h
  split at h
  · split at h
    · exact pNoRef_c h
    · exact pCallI_r h
    · exact pCallS_r h
    · exact pCallI_r h
    · exact pCallS_r h
    · exact pCallI_r h
    · exact pCopy_c h
    · exact pD2l_c h
    · exact pClone_c h
    · cases h
  · cases h
theorem pS1_call {ins : Instr} {pc : Nat} {dt : List Nat} {lv : pLv} {st : List Value} {w : pW} {y : Nat × List Value × List Value} (h : pS1 ins pc dt lv st w = some (.inr (.inl y))) : ∃ idx, (ins = .invokevirtual idx ∨ ins = .invokespecial idx ∨ ins = .invokestatic idx) ∧ pCall pc dt lv st w = some (.inr (.inl y)) := by
  cases ins with
  | iconst n => exact (pK1_c h).elim
  | bipush n => exact (pK1_c h).elim
  | sipush n => exact (pK1_c h).elim
  | lconst n => exact (pGo1_c h).elim
  | iload_n j => exact (pLd1_c h).elim
  | iload j => exact (pLd1_c h).elim
  | lload_n j => exact (pLdL_c h).elim
  | lload j => exact (pLdL_c h).elim
  | aload_n j => exact (pLdA_c h).elim
  | dload_n j => exact (pLdD_c h).elim
  | istore_n j => exact (pSt1_c h).elim
  | istore j => exact (pSt1_c h).elim
  | lstore_n j => exact (pStL_c h).elim
  | lstore j => exact (pStL_c h).elim
  | astore_n j => exact (pStA_c h).elim
  | dstore_n j => exact (pStD_c h).elim
  | iinc j n => exact (pInc_c h).elim
  | iadd => exact (pII_c h).elim
  | isub => exact (pII_c h).elim
  | imul => exact (pII_c h).elim
  | iand => exact (pII_c h).elim
  | ixor => exact (pII_c h).elim
  | ladd => exact (pLL_c h).elim
  | lsub => exact (pLL_c h).elim
  | lmul => exact (pLL_c h).elim
  | land => exact (pLL_c h).elim
  | lor => exact (pLL_c h).elim
  | lxor => exact (pLL_c h).elim
  | lcmp => exact (pLL_c h).elim
  | idiv => exact (pDiv_c h).elim
  | irem => exact (pDiv_c h).elim
  | ldiv => exact (pDivL_c h).elim
  | ddiv => exact (pDivD_c h).elim
  | dmul => exact (pDivD_c h).elim
  | ineg => exact (pI1_c h).elim
  | i2l => exact (pI1_c h).elim
  | i2d => exact (pI1_c h).elim
  | lneg => exact (pL1_c h).elim
  | l2i => exact (pL1_c h).elim
  | l2d => exact (pL1_c h).elim
  | d2l => exact (pD1_c h).elim
  | lushr => exact (pLI_c h).elim
  | lshl => exact (pLI_c h).elim
  | dcmp op => exact (pDD_c h).elim
  | dup => exact (pDup_c h).elim
  | pop => exact (pPop_c h).elim
  | dup2 => exact (pDup2_c h).elim
  | goto o => exact (pGoto_c h).elim
  | tableswitch a b c d => exact (pTab_c h).elim
  | ldc n => exact (pLdc_c h).elim
  | ldc_w n => exact (pLdc_c h).elim
  | ldc2_w n => exact (pLdc2_c h).elim
  | getfield n => exact (pGetF_c h).elim
  | iaload => exact (pALd_c h).elim
  | baload => exact (pALd_c h).elim
  | laload => exact (pALdL_c h).elim
  | aload j => exact (pLdA_c h).elim
  | astore j => exact (pStA_c h).elim
  | aconst_null => exact (pGo1_c h).elim
  | ior => exact (pII_c h).elim
  | ishl => exact (pII_c h).elim
  | ishr => exact (pII_c h).elim
  | iushr => exact (pII_c h).elim
  | ifnull n => exact (pIfN_c h).elim
  | ifnonnull n => exact (pIfN_c h).elim
  | aaload => exact (pALdA_c h).elim
  | aastore => exact (pAStA_c h).elim
  | anewarray n => exact (pANew_c h).elim
  | multianewarray n k => exact (pMNew_c h).elim
  | checkcast n => exact (pCast_c h).elim
  | areturn => exact (pAret_c h).elim
  | arraylength => exact (pALen_c h).elim
  | putfield n => exact (pPutF_c h).elim
  | iastore => exact (pASt_c h).elim
  | bastore => exact (pAStZ_c h).elim
  | lastore => exact (pAStL_c h).elim
  | newarray t => exact (pNewA_c h).elim
  | new n => exact (pNewO_c h).elim
  | ifCond kc off => cases kc <;> exact (pIf_c h).elim
  | if_icmp kc off => cases kc <;> exact (pIf2_c h).elim
  | invokevirtual n => exact ⟨n, Or.inl rfl, h⟩
  | invokespecial n => exact ⟨n, Or.inr (Or.inl rfl), h⟩
  | invokestatic n => exact ⟨n, Or.inr (Or.inr rfl), h⟩
  | ireturn => exact (pIret_c h).elim
  | lreturn => exact (pLret_c h).elim
  | return_ => exact (pVret_c h).elim
  | _ => exact (by have h2 : (none : Option pOut) = some (.inr (.inl y)) := h; cases h2)
theorem pS1_ret {ins : Instr} {pc : Nat} {dt : List Nat} {lv : pLv} {st : List Value} {w : pW} {y : Option Value} (h : pS1 ins pc dt lv st w = some (.inr (.inr y))) : (ins = .ireturn ∧ pIret dt st = some (.inr (.inr y))) ∨ (ins = .lreturn ∧ pLret st = some (.inr (.inr y))) ∨ (ins = .return_ ∧ pVret st = some (.inr (.inr y))) ∨ (ins = .areturn ∧ pAret st = some (.inr (.inr y))) := by
  cases ins with
  | iconst n => exact (pK1_c h).elim
  | bipush n => exact (pK1_c h).elim
  | sipush n => exact (pK1_c h).elim
  | lconst n => exact (pGo1_c h).elim
  | iload_n j => exact (pLd1_c h).elim
  | iload j => exact (pLd1_c h).elim
  | lload_n j => exact (pLdL_c h).elim
  | lload j => exact (pLdL_c h).elim
  | aload_n j => exact (pLdA_c h).elim
  | dload_n j => exact (pLdD_c h).elim
  | istore_n j => exact (pSt1_c h).elim
  | istore j => exact (pSt1_c h).elim
  | lstore_n j => exact (pStL_c h).elim
  | lstore j => exact (pStL_c h).elim
  | astore_n j => exact (pStA_c h).elim
  | dstore_n j => exact (pStD_c h).elim
  | iinc j n => exact (pInc_c h).elim
  | iadd => exact (pII_c h).elim
  | isub => exact (pII_c h).elim
  | imul => exact (pII_c h).elim
  | iand => exact (pII_c h).elim
  | ixor => exact (pII_c h).elim
  | ladd => exact (pLL_c h).elim
  | lsub => exact (pLL_c h).elim
  | lmul => exact (pLL_c h).elim
  | land => exact (pLL_c h).elim
  | lor => exact (pLL_c h).elim
  | lxor => exact (pLL_c h).elim
  | lcmp => exact (pLL_c h).elim
  | idiv => exact (pDiv_c h).elim
  | irem => exact (pDiv_c h).elim
  | ldiv => exact (pDivL_c h).elim
  | ddiv => exact (pDivD_c h).elim
  | dmul => exact (pDivD_c h).elim
  | ineg => exact (pI1_c h).elim
  | i2l => exact (pI1_c h).elim
  | i2d => exact (pI1_c h).elim
  | lneg => exact (pL1_c h).elim
  | l2i => exact (pL1_c h).elim
  | l2d => exact (pL1_c h).elim
  | d2l => exact (pD1_c h).elim
  | lushr => exact (pLI_c h).elim
  | lshl => exact (pLI_c h).elim
  | dcmp op => exact (pDD_c h).elim
  | dup => exact (pDup_c h).elim
  | pop => exact (pPop_c h).elim
  | dup2 => exact (pDup2_c h).elim
  | goto o => exact (pGoto_c h).elim
  | tableswitch a b c d => exact (pTab_c h).elim
  | ldc n => exact (pLdc_c h).elim
  | ldc_w n => exact (pLdc_c h).elim
  | ldc2_w n => exact (pLdc2_c h).elim
  | getfield n => exact (pGetF_c h).elim
  | iaload => exact (pALd_c h).elim
  | baload => exact (pALd_c h).elim
  | laload => exact (pALdL_c h).elim
  | aload j => exact (pLdA_c h).elim
  | astore j => exact (pStA_c h).elim
  | aconst_null => exact (pGo1_c h).elim
  | ior => exact (pII_c h).elim
  | ishl => exact (pII_c h).elim
  | ishr => exact (pII_c h).elim
  | iushr => exact (pII_c h).elim
  | ifnull n => exact (pIfN_c h).elim
  | ifnonnull n => exact (pIfN_c h).elim
  | aaload => exact (pALdA_c h).elim
  | aastore => exact (pAStA_c h).elim
  | anewarray n => exact (pANew_c h).elim
  | multianewarray n k => exact (pMNew_c h).elim
  | checkcast n => exact (pCast_c h).elim
  | areturn => exact Or.inr (Or.inr (Or.inr ⟨rfl, h⟩))
  | arraylength => exact (pALen_c h).elim
  | putfield n => exact (pPutF_c h).elim
  | iastore => exact (pASt_c h).elim
  | bastore => exact (pAStZ_c h).elim
  | lastore => exact (pAStL_c h).elim
  | newarray t => exact (pNewA_c h).elim
  | new n => exact (pNewO_c h).elim
  | ifCond kc off => cases kc <;> exact (pIf_c h).elim
  | if_icmp kc off => cases kc <;> exact (pIf2_c h).elim
  | invokevirtual n => exact (pCall_r h).elim
  | invokespecial n => exact (pCall_r h).elim
  | invokestatic n => exact (pCall_r h).elim
  | ireturn => exact Or.inl ⟨rfl, h⟩
  | lreturn => exact Or.inr (Or.inl ⟨rfl, h⟩)
  | return_ => exact Or.inr (Or.inr (Or.inl ⟨rfl, h⟩))
  | _ => exact (by have h2 : (none : Option pOut) = some (.inr (.inr y)) := h; cases h2)
theorem pSl_len (b : pBas) (vs : List Value) : (lg_sl (vs.map (pv b))).length = pCat vs := by
  induction vs with
  | nil => rfl
  | cons v vs ih =>
    have e1 : lg_sl ((v :: vs).map (pv b)) = (if (pv b v).category = 2 then [.val (pv b v), .second] else [.val (pv b v)]) ++ lg_sl (vs.map (pv b)) := by
      simp [lg_sl]
    have e2 : pCat (v :: vs) = v.category + pCat vs := rfl
    rw [e1, e2, List.length_append, ih, pv_cat]
    rcases lv_cat v with h | h <;> simp [h]
theorem pCall_as {pc kd j n e9 ci mx : Nat} {lv : pLv} {st as rest : List Value} {w : pW} {j9 : Nat} (h : pCall pc [kd, j, n, e9, ci, mx] lv st w = some (.inr (.inl (j9, as, rest)))) : j9 = j ∧ pCat as ≤ mx ∧ (kd = 1 ∨ kd = 2 ∨ kd = 3 ∨ kd = 4 ∨ kd = 5) := by
  have hI : pCallI j n ci mx st w = some (.inr (.inl (j9, as, rest))) → j9 = j ∧ pCat as ≤ mx := by
    intro h
    unfold pCallI at h
    split at h
    · split at h
      · rcases pCond h with ⟨hc, h⟩ | ⟨_, h⟩
        · cases h
          simp only [Bool.and_eq_true] at hc
          exact ⟨rfl, pBle hc.2⟩
        · cases h
      · cases h
    · cases h
  have hS : pCallS j n mx st = some (.inr (.inl (j9, as, rest))) → j9 = j ∧ pCat as ≤ mx := by
    intro h
    unfold pCallS at h
    split at h
    · rcases pCond h with ⟨hc, h⟩ | ⟨_, h⟩
      · cases h
        simp only [Bool.and_eq_true] at hc
        exact ⟨rfl, pBle hc.2⟩
      · cases h
    · cases h
  unfold pCall at h
  simp only at h
  split at h
  · exact (pNoRef_c h).elim
  · exact ⟨(hI h).1, (hI h).2, by decide⟩
  · exact ⟨(hS h).1, (hS h).2, by decide⟩
  · exact ⟨(hI h).1, (hI h).2, by decide⟩
  · exact ⟨(hS h).1, (hS h).2, by decide⟩
  · exact ⟨(hI h).1, (hI h).2, by decide⟩
  · exact (pCopy_c h).elim
  · exact (pD2l_c h).elim
  · exact (pClone_c h).elim
  · cases h
theorem pIret_inv {dt : List Nat} {st : List Value} {r : Option Value} (h : pIret dt st = some (.inr (.inr r))) : ∃ x, st = [.int x] ∧ r = some (.int x) ∧ (dt = [0] ∨ (dt = [1] ∧ (x = 0 ∨ x = 1))) := by
  unfold pIret at h
  split at h
  · cases h
    exact ⟨_, rfl, rfl, Or.inl rfl⟩
  · rcases pCond h with ⟨hc, h⟩ | ⟨_, h⟩
    · cases h
      simp only [Bool.or_eq_true, decide_eq_true_eq] at hc
      exact ⟨_, rfl, rfl, Or.inr ⟨rfl, hc⟩⟩
    · cases h
  · cases h
theorem pLret_inv {st : List Value} {r : Option Value} (h : pLret st = some (.inr (.inr r))) : ∃ x, st = [.long x] ∧ r = some (.long x) := by
  unfold pLret at h
  split at h
  · cases h
    exact ⟨_, rfl, rfl⟩
  · cases h
theorem pVret_inv {st : List Value} {r : Option Value} (h : pVret st = some (.inr (.inr r))) : st = [] ∧ r = none := by
  unfold pVret at h
  split at h
  · cases h
    exact ⟨rfl, rfl⟩
  · cases h
theorem pAret_inv {st : List Value} {r : Option Value} (h : pAret st = some (.inr (.inr r))) : ∃ v, st = [v] ∧ r = some v ∧ (v = .null ∨ ∃ a, v = .ref a) := by
  unfold pAret at h
  split at h
  · cases h
    exact ⟨_, rfl, rfl, Or.inr ⟨_, rfl⟩⟩
  · cases h
    exact ⟨_, rfl, rfl, Or.inl rfl⟩
  · cases h
/-- what a run of n instructions says, in any caller's frame -/
def pSim (n : Nat) : Prop := ∀ (i : Nat) (q : pSt) (r : Option Value) (wF : pW), pGo n i q = some (r, wF) → ∀ (p : Program) (l : Launch) (e : Env) (R : Room) (s : State) (m : MethodId) (args : Array Value) (below : List Frame) (meth : Method) (c : Code) (D : va_G) (b : pBas) (n0 z0 : Nat) (cA : Nat → ClassId),
  pCtx p R s m args meth c D b n0 i cA → wF.length - n0 ≤ R.cells → pwsz wF - z0 ≤ R.slots → n0 ≤ q.2.2.2.length → z0 ≤ pwsz q.2.2.2 →
  pK p l e R s m args below meth c D b n0 z0 i cA (MQ below (pPost D b cA r wF) args s (wF.length - n0) (pwsz wF - z0) (pAdS b)) q
set_option maxHeartbeats 4000000 in
/-- a run, entered, is a contract -/
theorem pMet_of {n : Nat} (ih : pSim n) {l : Launch} {D : va_G} {b : pBas} {cA : Nat → ClassId} {j : Nat} {as : List Value} {w w1 : pW} {r : Option Value} (hj : j < 158) (ha : pCat as ≤ pX j) (h : pGo n j (0, lv_args 0 as, [], w) = some (r, w1)) : pMet l D b cA j as w r w1 := by
  obtain ⟨m1, m2, m3, m4⟩ := pMe_all j hj
  unfold pMet
  refine va_MetF (cc := pB j) (maxL := pX j) (ret := pR j) m3 rfl ?_
  intro p e s m args below meth c s₁ B hml hv
  obtain ⟨rfl, hsz, hP, hK, hN⟩ := hv
  have hown : s.vm.findClass (pY j).cls = some m.cls := findClass_of_methodNamed B.named
  rw [m4] at hown
  have hC : pCtx p (headSpec (pWs j) (pRoom j (w1.length - w.length) (pwsz w1 - pwsz w))).room s m (as.map (pv b)).toArray meth c D b w.length j cA :=
    ⟨B.exec, B.bytes, hml, B.returns, hown, fun w9 hw9 => atoms_spec (ws := pWs j) B.pre w9 (List.mem_cons_of_mem _ hw9), hN, hK, B.notSynchronized, (name_of_methodNamed B.named B.method).1, hsz, Nat.le_refl _, Nat.le_refl _⟩
  have hk := ih j _ r w1 h p l e _ s m _ below meth c D b w.length (pwsz w) cA hC (Nat.le_refl _) (Nat.le_refl _) (Nat.le_refl _) (Nat.le_refl _)
  have hl := lv_entry (as.map (pv b)) (n := pX j) (by rw [pSl_len]; exact ha)
  rw [lg_entry_eq]
  generalize (lg_sl (as.map (pv b)) ++ List.replicate (pX j - (lg_sl (as.map (pv b))).length) Slot.unset).toArray = ls at hl ⊢
  rw [lv_args_pv] at hl
  have := hk s.heap [] ls ⟨hP, va_S.rf⟩ hl
  simp only [Nat.sub_self] at this
  exact this
set_option maxHeartbeats 4000000 in
/-- A RUN OF THE PLAIN MACHINE IS A RUN OF THE MACHINE -/
theorem sim : ∀ n, pSim n := by
  intro n
  induction n with
  | zero => intro i q r wF h; cases h
  | succ n ih =>
    intro i q r wF h p l e R s m args below meth c D b n0 z0 cA C hRc hRs hn hz
    obtain ⟨pc, lv, st, w⟩ := q
    rw [pGo_succ] at h
    unfold pStep at h
    split at h
    · cases h
    · rename_i ins dt hI
      have hI : pI i pc = some (ins, dt) := hI
      unfold pThen at h
      split at h
      · cases h
      · rename_i q1 h1
        have g1 := pGo_m _ _ _ _ _ h
        have g2 := pS1_m h1
        exact pstep C hI h1 hn hz (by have := g1.1; omega) (by have := g1.2; omega) (ih i q1 r wF h p l e R s m args below meth c D b n0 z0 cA C hRc hRs (Nat.le_trans hn g2.1) (Nat.le_trans hz g2.2))
      · rename_i j as rest h1
        split at h
        · cases h
        · rename_i r1 w1 h2
          have g1 := pGo_m _ _ _ _ _ h
          have g2 := pGo_m _ _ _ _ _ h2
          obtain ⟨idx, hins, hcall⟩ := pS1_call h1
          have hchk := pI_ok hI
          unfold pChk at hchk
          simp only [Bool.and_eq_true, decide_eq_true_eq] at hchk
          obtain ⟨hd, hdat⟩ := hchk
          have hok : ∃ ks, pCallOK i idx ks dt = true := by
            rcases hins with rfl | rfl | rfl
            · exact ⟨_, hdat⟩
            · exact ⟨_, hdat⟩
            · exact ⟨_, hdat⟩
          obtain ⟨ks, hok⟩ := hok
          have hdt : ∃ kd j9 n9 e9 ci mx, dt = [kd, j9, n9, e9, ci, mx] := by
            unfold pCallOK at hok
            split at hok
            · exact ⟨_, _, _, _, _, _, rfl⟩
            · cases hok
          obtain ⟨kd, j9, n9, e9, ci, mx, rfl⟩ := hdt
          obtain ⟨rfl, has, hkd⟩ := pCall_as hcall
          have hj : j < 158 ∧ mx = pX j := by
            unfold pCallOK at hok
            simp only [Bool.and_eq_true] at hok
            have h3 := hok.2
            rcases hkd with rfl | rfl | rfl | rfl | rfl <;> simp only [Bool.and_eq_true] at h3 <;> exact ⟨pBle h3.1.1.1.1.1, pBeq h3.2⟩
          have hM : pMet l D b cA j as w r1 w1 := pMet_of ih hj.1 (by rw [← hj.2]; exact has) h2
          refine pcall (idx := idx) C rfl hcall hM g2 hn hz (by have := g1.1; have h4 : w1.length ≤ wF.length := g1.1; omega) (by have h4 : pwsz w1 ≤ pwsz wF := g1.2; omega) ?_ (ih i _ r wF h p l e R s m args below meth c D b n0 z0 cA C hRc hRs (Nat.le_trans hn g2.1) (Nat.le_trans hz g2.2))
          rcases hins with rfl | rfl | rfl
          · exact Or.inl ⟨hd, hdat⟩
          · exact Or.inr (Or.inl ⟨hd, hdat⟩)
          · exact Or.inr (Or.inr ⟨hd, hdat⟩)
      · rename_i r1 h1
        cases h
        have hchk := pI_ok hI
        unfold pChk at hchk
        simp only [Bool.and_eq_true, decide_eq_true_eq] at hchk
        obtain ⟨hd, hdat⟩ := hchk
        obtain ⟨hx, hb, hml, hr, hown, hts, hN, hK, hlk, hnm, hsz, hRf, hRl⟩ := C
        intro H locs ls hA hl
        have hpost : ∀ t : State, t.heap = H → s.WarmedH t.vm → pPost D b cA r w args s (.returned (r.map (pv b))) t := fun t ht _ => ⟨rfl, by rw [ht]; exact hA.1, by rw [ht]; exact hA.2.1, fun x h3 h4 => by rw [ht]; exact hA.2.2.1 x h3 h4⟩
        rcases pS1_ret h1 with ⟨rfl, hq⟩ | ⟨rfl, hq⟩ | ⟨rfl, hq⟩ | ⟨rfl, hq⟩
        · obtain ⟨x, rfl, rfl, hdt⟩ := pIret_inv hq
          show W p l e R s m args below meth c H locs (w.length - n0) (pwsz w - z0) (MQ below (pPost D b cA (some (.int x)) w) args s (w.length - n0) (pwsz w - z0) (pAdS b)) (F0 m pc ls [.int x])
          rcases hdt with rfl | ⟨rfl, hc⟩
          · exact W.iret hx hb (hr.trans (of_decide_eq_true hdat)) hpost hA.2.2.2 hd hlk
          · refine W.zret (ty := .boolean) hx hb (hr.trans (of_decide_eq_true hdat)) ?_ hpost hA.2.2.2 hd hlk
            rcases hc with rfl | rfl <;> rfl
        · obtain ⟨x, rfl, rfl⟩ := pLret_inv hq
          show W p l e R s m args below meth c H locs (w.length - n0) (pwsz w - z0) (MQ below (pPost D b cA (some (.long x)) w) args s (w.length - n0) (pwsz w - z0) (pAdS b)) (F0 m pc ls [.long x])
          exact W.lret hx hb (hr.trans (of_decide_eq_true hdat)) hpost hA.2.2.2 hd hlk
        · obtain ⟨rfl, rfl⟩ := pVret_inv hq
          show W p l e R s m args below meth c H locs (w.length - n0) (pwsz w - z0) (MQ below (pPost D b cA none w) args s (w.length - n0) (pwsz w - z0) (pAdS b)) (F0 m pc ls [])
          exact W.vret hx hb (hr.trans (of_decide_eq_true hdat)) hpost hA.2.2.2 hd hlk
        · obtain ⟨v9, rfl, rfl, hv9⟩ := pAret_inv hq
          show W p l e R s m args below meth c H locs (w.length - n0) (pwsz w - z0) (MQ below (pPost D b cA (some v9) w) args s (w.length - n0) (pwsz w - z0) (pAdS b)) (F0 m pc ls [pv b v9])
          have hrf : pRefR (pR i) = true := of_decide_eq_true hdat
          obtain ⟨rt, hrt, hrt2⟩ : ∃ rt, pR i = some rt ∧ ((∃ n, rt = .object n) ∨ ∃ t, rt = .array t) := by
            unfold pRefR at hrf
            split at hrf
            · rename_i n9 hn9
              exact ⟨_, hn9, Or.inl ⟨_, rfl⟩⟩
            · rename_i n9 hn9
              exact ⟨_, hn9, Or.inr ⟨_, rfl⟩⟩
            · cases hrf
          refine W.aret hx hb (hr.trans hrt) hrt2 ?_ hpost hA.2.2.2 hd hlk
          rcases hv9 with rfl | ⟨a9, rfl⟩
          · exact Or.inl rfl
          · exact Or.inr ⟨_, rfl⟩
