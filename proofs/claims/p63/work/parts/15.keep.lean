/-! Objects stay objects of their class. -/
def pKp (w w' : pW) : Prop := ∀ (k c : Nat) (fs : List Value), w[k]? = some (.inr (c, fs)) → ∃ fs' : List Value, w'[k]? = some (.inr (c, fs'))
theorem pKp.rf {w : pW} : pKp w w := fun _ _ fs h => ⟨fs, h⟩
theorem pKp.eq {w w' : pW} (h : w' = w) : pKp w w' := by rw [h]; exact pKp.rf
theorem pKp.tr {w1 w2 w3 : pW} (h : pKp w1 w2) (g : pKp w2 w3) : pKp w1 w3 := fun k c fs h1 => by
  obtain ⟨fs2, h2⟩ := h k c fs h1
  exact g k c fs2 h2
theorem pKp.setO {w : pW} {a c : Nat} {fs fs' : List Value} (hw : w[a]? = some (.inr (c, fs))) : pKp w (w.set a (.inr (c, fs'))) := by
  intro k c2 fs2 h
  rw [List.getElem?_set]
  by_cases e : a = k
  · subst e
    rw [hw] at h
    cases h
    rw [if_pos rfl, if_pos (List.getElem?_eq_some_iff.mp hw).1]
    exact ⟨_, rfl⟩
  · rw [if_neg e]
    exact ⟨_, h⟩
theorem pKp.setA {w : pW} {a : Nat} {x y : Nat × vp_A} (hw : w[a]? = some (.inl x)) : pKp w (w.set a (.inl y)) := by
  intro k c2 fs2 h
  rw [List.getElem?_set]
  by_cases e : a = k
  · subst e
    rw [hw] at h
    cases h
  · rw [if_neg e]
    exact ⟨_, h⟩
theorem pKp.app {w : pW} {c1 : pCell} : pKp w (w ++ [c1]) := by
  intro k c fs h
  rw [List.getElem?_append_left (List.getElem?_eq_some_iff.mp h).1]
  exact ⟨_, h⟩
theorem pPutF_p {pc : Nat} {dt : List Nat} {lv : pLv} {st : List Value} {w : pW} {q : pSt} (h : pPutF pc dt lv st w = some (.inl q)) : pKp w q.2.2.2 := by
  unfold pPutF pGo1 at h
  split at h
  · split at h
    · rename_i hw
      rcases pCond h with ⟨_, h⟩ | ⟨_, h⟩
      · cases h
        exact pKp.setO hw
      · cases h
    · cases h
  · cases h
theorem pASt_p {pc : Nat} {lv : pLv} {st : List Value} {w : pW} {q : pSt} (h : pASt pc lv st w = some (.inl q)) : pKp w q.2.2.2 := by
  unfold pASt pGo1 at h
  split at h
  · split at h
    · rename_i hw
      rcases pCond h with ⟨_, h⟩ | ⟨_, h⟩
      · cases h
        exact pKp.setA hw
      · cases h
    · cases h
  · cases h
theorem pAStZ_p {pc : Nat} {lv : pLv} {st : List Value} {w : pW} {q : pSt} (h : pAStZ pc lv st w = some (.inl q)) : pKp w q.2.2.2 := by
  unfold pAStZ pGo1 at h
  split at h
  · split at h
    · rename_i hw
      rcases pCond h with ⟨_, h⟩ | ⟨_, h⟩
      · cases h
        exact pKp.setA hw
      · cases h
    · cases h
  · cases h
theorem pAStL_p {pc : Nat} {lv : pLv} {st : List Value} {w : pW} {q : pSt} (h : pAStL pc lv st w = some (.inl q)) : pKp w q.2.2.2 := by
  unfold pAStL pGo1 at h
  split at h
  · split at h
    · rename_i hw
      rcases pCond h with ⟨_, h⟩ | ⟨_, h⟩
      · cases h
        exact pKp.setA hw
      · cases h
    · cases h
  · cases h
theorem pNewA_p {pc : Nat} {dt : List Nat} {lv : pLv} {st : List Value} {w : pW} {q : pSt} (h : pNewA pc dt lv st w = some (.inl q)) : pKp w q.2.2.2 := by
  unfold pNewA pGo1 at h
  split at h
  · rcases pCond h with ⟨_, h⟩ | ⟨_, h⟩
    · cases h
      exact pKp.app
    · cases h
  · cases h
theorem pNewO_p {pc : Nat} {dt : List Nat} {lv : pLv} {st : List Value} {w : pW} {q : pSt} (h : pNewO pc dt lv st w = some (.inl q)) : pKp w q.2.2.2 := by
  unfold pNewO pGo1 at h
  split at h
  · cases h
    exact pKp.app
  · cases h
theorem pCopy_p {pc : Nat} {lv : pLv} {st : List Value} {w : pW} {q : pSt} (h : pCopy pc lv st w = some (.inl q)) : pKp w q.2.2.2 := by
  unfold pCopy at h
  split at h
  · rcases pCond h with ⟨_, h⟩ | ⟨_, h⟩
    · split at h
      · rename_i hw0 hw1
        rcases pCond h with ⟨_, h⟩ | ⟨_, h⟩
        · rw [pOK8_m h]
          exact pKp.setA hw1
        · cases h
      · rename_i hw0 hw1
        rcases pCond h with ⟨_, h⟩ | ⟨_, h⟩
        · rw [pOK8_m h]
          exact pKp.setA hw1
        · cases h
      · cases h
    · cases h
  · cases h
theorem pKp.apps {w w2 : pW} : pKp w (w ++ w2) := by
  intro k c fs h
  rw [List.getElem?_append_left (List.getElem?_eq_some_iff.mp h).1]
  exact ⟨_, h⟩
theorem pAStA_p {pc : Nat} {lv : pLv} {st : List Value} {w : pW} {q : pSt} (h : pAStA pc lv st w = some (.inl q)) : pKp w q.2.2.2 := by
  unfold pAStA pGo1 at h
  split at h
  · split at h
    · rename_i hw
      rcases pCond h with ⟨_, h⟩ | ⟨_, h⟩
      · cases h
        exact pKp.setA hw
      · cases h
    · cases h
  · split at h
    · rename_i hw
      rcases pCond h with ⟨_, h⟩ | ⟨_, h⟩
      · cases h
        exact pKp.setA hw
      · cases h
    · cases h
  · cases h
theorem pANew_p {pc : Nat} {dt : List Nat} {lv : pLv} {st : List Value} {w : pW} {q : pSt} (h : pANew pc dt lv st w = some (.inl q)) : pKp w q.2.2.2 := by
  unfold pANew pGo1 at h
  split at h
  · rcases pCond h with ⟨_, h⟩ | ⟨_, h⟩
    · cases h
      exact pKp.app
    · cases h
  · cases h
theorem pMNew_p {pc : Nat} {lv : pLv} {st : List Value} {w : pW} {q : pSt} (h : pMNew pc lv st w = some (.inl q)) : pKp w q.2.2.2 := by
  unfold pMNew pGo1 at h
  split at h
  · rcases pCond h with ⟨_, h⟩ | ⟨_, h⟩
    · cases h
      exact pKp.apps
    · cases h
  · cases h
theorem pClone_p {pc : Nat} {lv : pLv} {st : List Value} {w : pW} {q : pSt} (h : pClone pc lv st w = some (.inl q)) : pKp w q.2.2.2 := by
  unfold pClone pGo1 at h
  split at h
  · split at h
    · rcases pCond h with ⟨_, h⟩ | ⟨_, h⟩
      · cases h
        exact pKp.app
      · cases h
    · cases h
  · cases h
theorem pCall_p {pc : Nat} {dt : List Nat} {lv : pLv} {st : List Value} {w : pW} {q : pSt} (h : pCall pc dt lv st w = some (.inl q)) : pKp w q.2.2.2 := by
  unfold pCall at h
  split at h
  · split at h
    · exact pKp.eq (pNoRef_m h)
    · exact (pCallI_no h).elim
    · exact (pCallS_no h).elim
    · exact (pCallI_no h).elim
    · exact (pCallS_no h).elim
    · exact (pCallI_no h).elim
    · exact pCopy_p h
    · exact pKp.eq (pD2l_m h)
    · exact pClone_p h
    · cases h
  · cases h
theorem pS1_p {ins : Instr} {pc : Nat} {dt : List Nat} {lv : pLv} {st : List Value} {w : pW} {q : pSt} (h : pS1 ins pc dt lv st w = some (.inl q)) : pKp w q.2.2.2 := by
  cases ins with
  | iconst n => exact pKp.eq (pK1_m h)
  | bipush n => exact pKp.eq (pK1_m h)
  | sipush n => exact pKp.eq (pK1_m h)
  | lconst n => exact pKp.eq (pGo1_m h)
  | iload_n j => exact pKp.eq (pLd1_m h)
  | iload j => exact pKp.eq (pLd1_m h)
  | lload_n j => exact pKp.eq (pLdL_m h)
  | lload j => exact pKp.eq (pLdL_m h)
  | aload_n j => exact pKp.eq (pLdA_m h)
  | dload_n j => exact pKp.eq (pLdD_m h)
  | istore_n j => exact pKp.eq (pSt1_m h)
  | istore j => exact pKp.eq (pSt1_m h)
  | lstore_n j => exact pKp.eq (pStL_m h)
  | lstore j => exact pKp.eq (pStL_m h)
  | astore_n j => exact pKp.eq (pStA_m h)
  | dstore_n j => exact pKp.eq (pStD_m h)
  | iinc j n => exact pKp.eq (pInc_m h)
  | iadd => exact pKp.eq (pII_m h)
  | isub => exact pKp.eq (pII_m h)
  | imul => exact pKp.eq (pII_m h)
  | iand => exact pKp.eq (pII_m h)
  | ixor => exact pKp.eq (pII_m h)
  | ladd => exact pKp.eq (pLL_m h)
  | lsub => exact pKp.eq (pLL_m h)
  | lmul => exact pKp.eq (pLL_m h)
  | land => exact pKp.eq (pLL_m h)
  | lor => exact pKp.eq (pLL_m h)
  | lxor => exact pKp.eq (pLL_m h)
  | lcmp => exact pKp.eq (pLL_m h)
  | idiv => exact pKp.eq (pDiv_m h)
  | irem => exact pKp.eq (pDiv_m h)
  | ldiv => exact pKp.eq (pDivL_m h)
  | ddiv => exact pKp.eq (pDivD_m h)
  | dmul => exact pKp.eq (pDivD_m h)
  | ineg => exact pKp.eq (pI1_m h)
  | i2l => exact pKp.eq (pI1_m h)
  | i2d => exact pKp.eq (pI1_m h)
  | lneg => exact pKp.eq (pL1_m h)
  | l2i => exact pKp.eq (pL1_m h)
  | l2d => exact pKp.eq (pL1_m h)
  | d2l => exact pKp.eq (pD1_m h)
  | lushr => exact pKp.eq (pLI_m h)
  | lshl => exact pKp.eq (pLI_m h)
  | dcmp op => exact pKp.eq (pDD_m h)
  | dup => exact pKp.eq (pDup_m h)
  | pop => exact pKp.eq (pPop_m h)
  | dup2 => exact pKp.eq (pDup2_m h)
  | goto o => exact pKp.eq (pGoto_m h)
  | tableswitch a b c d => exact pKp.eq (pTab_m h)
  | ldc n => exact pKp.eq (pLdc_m h)
  | ldc_w n => exact pKp.eq (pLdc_m h)
  | ldc2_w n => exact pKp.eq (pLdc2_m h)
  | getfield n => exact pKp.eq (pGetF_m h)
  | iaload => exact pKp.eq (pALd_m h)
  | baload => exact pKp.eq (pALd_m h)
  | laload => exact pKp.eq (pALdL_m h)
  | aload j => exact pKp.eq (pLdA_m h)
  | astore j => exact pKp.eq (pStA_m h)
  | aconst_null => exact pKp.eq (pGo1_m h)
  | ior => exact pKp.eq (pII_m h)
  | ishl => exact pKp.eq (pII_m h)
  | ishr => exact pKp.eq (pII_m h)
  | iushr => exact pKp.eq (pII_m h)
  | ifnull n => exact pKp.eq (pIfN_m h)
  | ifnonnull n => exact pKp.eq (pIfN_m h)
  | aaload => exact pKp.eq (pALdA_m h)
  | aastore => exact pAStA_p h
  | anewarray n => exact pANew_p h
  | multianewarray n k => exact pMNew_p h
  | checkcast n => exact pKp.eq (pCast_m h)
  | areturn => exact (pAret_no h).elim
  | arraylength => exact pKp.eq (pALen_m h)
  | putfield n => exact pPutF_p h
  | iastore => exact pASt_p h
  | bastore => exact pAStZ_p h
  | lastore => exact pAStL_p h
  | newarray t => exact pNewA_p h
  | new n => exact pNewO_p h
  | invokevirtual n => exact pCall_p h
  | invokespecial n => exact pCall_p h
  | invokestatic n => exact pCall_p h
  | ifCond kc off => cases kc <;> exact pKp.eq (pIf_m h)
  | if_icmp kc off => cases kc <;> exact pKp.eq (pIf2_m h)
  | ireturn => exact (pIret_no h).elim
  | lreturn => exact (pLret_no h).elim
  | return_ => exact (pVret_no h).elim
  | _ => exact (by have h2 : (none : Option pOut) = some (.inl q) := h; cases h2)
theorem pGo_p : ∀ (n i : Nat) (q : pSt) (r : Option Value) (wF : pW), pGo n i q = some (r, wF) → pKp q.2.2.2 wF := by
  intro n
  induction n with
  | zero => intro i q r wF h; cases h
  | succ n ih =>
    intro i q r wF h
    rw [pGo_succ] at h
    unfold pStep at h
    split at h
    · cases h
    · rename_i ins dt hI
      unfold pThen at h
      split at h
      · cases h
      · rename_i q1 h1
        exact (pS1_p h1).tr (ih _ _ _ _ h)
      · rename_i j as rest h1
        split at h
        · cases h
        · rename_i r1 w1 h2
          exact (ih _ _ _ _ h2).tr (ih _ _ _ _ h)
      · cases h
        exact pKp.rf
/-- more instructions do no harm -/
theorem pGo_more1 : ∀ (n i : Nat) (q : pSt) (x : Option Value × pW), pGo n i q = some x → pGo (n + 1) i q = some x := by
  intro n
  induction n with
  | zero => intro i q x h; cases h
  | succ n ih =>
    intro i q x h
    rw [pGo_succ] at h ⊢
    unfold pStep at h ⊢
    split at h
    · cases h
    · rename_i ins dt hI
      unfold pThen at h ⊢
      split at h
      · cases h
      · exact ih _ _ _ h
      · split at h
        · cases h
        · rename_i r1 w1 h2
          simp only [ih _ _ _ h2]
          exact ih _ _ _ h
      · exact h
theorem pGo_more {n k i : Nat} {q : pSt} {x : Option Value × pW} (h : pGo n i q = some x) : pGo (n + k) i q = some x := by
  induction k with
  | zero => exact h
  | succ k ih => exact pGo_more1 _ _ _ _ ih
/-- the run of a method: from its arguments and a world to its answer and a world -/
def pRun (j : Nat) (as : List Value) (w : pW) (r : Option Value) (w1 : pW) : Prop := ∃ n, pGo n j (0, lv_args 0 as, [], w) = some (r, w1)
/-- the rest of a run, from a state -/
def pRest (i : Nat) (q : pSt) (r : Option Value) (w1 : pW) : Prop := ∃ n, pGo n i q = some (r, w1)
