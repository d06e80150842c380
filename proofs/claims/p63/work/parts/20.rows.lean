/-! ROWS OF THE PLAIN MACHINE: a run put together from its pieces. -/
theorem pr_ret {i pc : Nat} {ins : Instr} {dt : List Nat} {lv : pLv} {st : List Value} {w : pW} {r : Option Value} (hI : pI i pc = some (ins, dt)) (h : pS1 ins pc dt lv st w = some (.inr (.inr r))) : pRest i (pc, lv, st, w) r w := by
  refine ⟨1, ?_⟩
  rw [pGo_succ]
  unfold pStep
  simp only [hI, h, pThen]
theorem pr_go {i pc : Nat} {ins : Instr} {dt : List Nat} {lv : pLv} {st : List Value} {w : pW} {q : pSt} {r : Option Value} {w1 : pW} (hI : pI i pc = some (ins, dt)) (h : pS1 ins pc dt lv st w = some (.inl q)) (K : pRest i q r w1) : pRest i (pc, lv, st, w) r w1 := by
  obtain ⟨n, hn⟩ := K
  refine ⟨n + 1, ?_⟩
  rw [pGo_succ]
  unfold pStep
  simp only [hI, h, pThen]
  exact hn
/-- k instructions that go on, one behind another -/
noncomputable def pBlk (k : Nat) : Nat → pSt → Option pSt := Nat.rec (motive := fun _ => Nat → pSt → Option pSt) (fun _ q => some q) (fun _ ih i q => match pI i q.1 with
    | some e => (match pS1 e.1 q.1 e.2 q.2.1 q.2.2.1 q.2.2.2 with
      | some (.inl q1) => ih i q1
      | _ => none)
    | none => none) k
theorem pBlk_succ (k i : Nat) (q : pSt) : pBlk (k + 1) i q = match pI i q.1 with
    | some e => (match pS1 e.1 q.1 e.2 q.2.1 q.2.2.1 q.2.2.2 with
      | some (.inl q1) => pBlk k i q1
      | _ => none)
    | none => none := rfl
theorem pBlk_go : ∀ (k i : Nat) (q q' : pSt), pBlk k i q = some q' → ∀ m, pGo (m + k) i q = pGo m i q' := by
  intro k
  induction k with
  | zero => intro i q q' h m; cases h; rfl
  | succ k ih =>
    intro i q q' h m
    rw [show m + (k + 1) = (m + k) + 1 from rfl, pGo_succ]
    rw [pBlk_succ] at h
    unfold pStep
    split at h
    · rename_i e hI
      obtain ⟨ins, dt⟩ := e
      split at h
      · rename_i q1 h1
        simp only [hI, h1, pThen]
        exact ih i q1 q' h m
      · cases h
    · cases h
theorem pr_blk {i : Nat} {q q' : pSt} {r : Option Value} {w1 : pW} (k : Nat) (h : pBlk k i q = some q') (K : pRest i q' r w1) : pRest i q r w1 := by
  obtain ⟨n, hn⟩ := K
  exact ⟨n + k, (pBlk_go k i q q' h n).trans hn⟩
theorem pr_call {i pc : Nat} {ins : Instr} {dt : List Nat} {lv : pLv} {st : List Value} {w : pW} {j : Nat} {as rest : List Value} {r1 r : Option Value} {w1 w2 : pW} (hI : pI i pc = some (ins, dt)) (h : pS1 ins pc dt lv st w = some (.inr (.inl (j, as, rest)))) (hc : pRun j as w r1 w1) (K : pRest i (pc + 3, lv, r1.toList ++ rest, w1) r w2) : pRest i (pc, lv, st, w) r w2 := by
  obtain ⟨n1, h1⟩ := hc
  obtain ⟨n2, h2⟩ := K
  refine ⟨n1 + n2 + 1, ?_⟩
  rw [pGo_succ]
  unfold pStep
  simp only [hI, h, pThen]
  rw [pGo_more (k := n2) h1]
  have h3 := pGo_more (k := n1) h2
  rw [Nat.add_comm] at h3
  exact h3
theorem pr_run {j : Nat} {as : List Value} {w : pW} {r : Option Value} {w1 : pW} {lv : pLv} (hlv : lv_args 0 as = lv) (K : pRest j (0, lv, [], w) r w1) : pRun j as w r w1 := by
  subst hlv
  exact K
-- what needs a look into the world
theorem ps_getf {pc ci k e a : Nat} {lv : pLv} {st : List Value} {w : pW} {fs : List Value} {v : Value} (hw : w[a]? = some (.inr (ci, fs))) (hv : fs[k]? = some v) : pGetF pc [ci, k, e] lv (.ref a :: st) w = some (.inl (pc, lv, v :: st, w)) := by
  unfold pGetF pGo1
  simp only [hw, hv, Nat.beq_refl, cond_true]
theorem ps_putf {pc ci k e a : Nat} {lv : pLv} {st : List Value} {w : pW} {fs : List Value} {v : Value} (hw : w[a]? = some (.inr (ci, fs))) (hk : k < fs.length) (hf : pFits (pTf ci k) v = true) : pPutF pc [ci, k, e] lv (v :: .ref a :: st) w = some (.inl (pc, lv, st, w.set a (.inr (ci, fs.set k v)))) := by
  unfold pPutF pGo1
  simp only [hw, Nat.beq_refl, Nat.ble_eq_true_of_le hk, hf, Bool.and_true, Bool.and_self, cond_true]
theorem ps_ald {pc a n kd : Nat} {lv : pLv} {st : List Value} {w : pW} {f : Nat → Int32} {x : Int32} (hw : w[a]? = some (.inl (kd, n, .inl f))) (hx : pInB x n = true) : pALd pc kd lv (.int x :: .ref a :: st) w = some (.inl (pc, lv, .int (f x.toNatClampNeg) :: st, w)) := by
  unfold pALd pGo1
  simp only [hw, hx, Nat.beq_refl, Bool.true_or, Bool.and_self, cond_true]
theorem ps_ald6 {pc n : Nat} {lv : pLv} {st : List Value} {w : pW} {f : Nat → Int32} {x : Int32} (hw : w[0]? = some (.inl (6, n, .inl f))) (hx : pInB x n = true) : pALd pc 0 lv (.int x :: .ref 0 :: st) w = some (.inl (pc, lv, .int (f x.toNatClampNeg) :: st, w)) := by
  unfold pALd pGo1
  simp only [hw, hx, Nat.beq_refl, Bool.and_self, Bool.or_true, cond_true]
theorem ps_aldl {pc a n : Nat} {lv : pLv} {st : List Value} {w : pW} {f : Nat → Int64} {x : Int32} (hw : w[a]? = some (.inl (1, n, .inr (.inl f)))) (hx : pInB x n = true) : pALdL pc lv (.int x :: .ref a :: st) w = some (.inl (pc, lv, .long (f x.toNatClampNeg) :: st, w)) := by
  unfold pALdL pGo1
  simp only [hw, hx, Nat.beq_refl, Bool.and_self, cond_true]
theorem ps_ast {pc a n : Nat} {lv : pLv} {st : List Value} {w : pW} {f : Nat → Int32} {x y : Int32} (hw : w[a]? = some (.inl (0, n, .inl f))) (hx : pInB x n = true) : pASt pc lv (.int y :: .int x :: .ref a :: st) w = some (.inl (pc, lv, st, w.set a (.inl (0, n, .inl (upd f x.toNatClampNeg y))))) := by
  unfold pASt pGo1
  simp only [hw, hx, Nat.beq_refl, Bool.and_self, cond_true]
theorem ps_astl {pc a n : Nat} {lv : pLv} {st : List Value} {w : pW} {f : Nat → Int64} {x : Int32} {y : Int64} (hw : w[a]? = some (.inl (1, n, .inr (.inl f)))) (hx : pInB x n = true) : pAStL pc lv (.long y :: .int x :: .ref a :: st) w = some (.inl (pc, lv, st, w.set a (.inl (1, n, .inr (.inl (vp_updL f x.toNatClampNeg y)))))) := by
  unfold pAStL pGo1
  simp only [hw, hx, Nat.beq_refl, Bool.and_self, cond_true]
/-- whether an int is a number of a row: nI k for k under its length -/
theorem pInB_nI {k n : Nat} (h : k < n) (hn : n < 2 ^ 31) : pInB (nI k) n = true := by
  unfold pInB
  have h1 : ¬ (nI k < 0) := nI_pos (by omega)
  rw [nI_clamp (by omega)]
  simp only [h1, decide_false, Bool.not_false, Bool.true_and]
  exact Nat.ble_eq_true_of_le h
-- branches, calls, returns
theorem ps_if_t {pc t : Nat} {lv : pLv} {st : List Value} {w : pW} {f : Int32 → Bool} {x : Int32} (h : f x = true) : pIf pc [t] lv (.int x :: st) w f = some (.inl (t, lv, st, w)) := by
  unfold pIf pBr pGo1
  simp only [h, cond_true]
theorem ps_if_f {pc t : Nat} {lv : pLv} {st : List Value} {w : pW} {f : Int32 → Bool} {x : Int32} (h : f x = false) : pIf pc [t] lv (.int x :: st) w f = some (.inl (pc + 3, lv, st, w)) := by
  unfold pIf pBr pGo1
  simp only [h, cond_false]
theorem ps_if2_t {pc t : Nat} {lv : pLv} {st : List Value} {w : pW} {f : Int32 → Int32 → Bool} {x y : Int32} (h : f x y = true) : pIf2 pc [t] lv (.int y :: .int x :: st) w f = some (.inl (t, lv, st, w)) := by
  unfold pIf2 pBr pGo1
  simp only [h, cond_true]
theorem ps_if2_f {pc t : Nat} {lv : pLv} {st : List Value} {w : pW} {f : Int32 → Int32 → Bool} {x y : Int32} (h : f x y = false) : pIf2 pc [t] lv (.int y :: .int x :: st) w f = some (.inl (pc + 3, lv, st, w)) := by
  unfold pIf2 pBr pGo1
  simp only [h, cond_false]
theorem ps_callI {j n ci mx a : Nat} {st as rest fs : List Value} {w : pW} (hp : pArgs n [] st = some (as, .ref a :: rest)) (hw : w[a]? = some (.inr (ci, fs))) (h8 : Nat.ble (pCat rest) 8 = true) (hm : Nat.ble (pCat (.ref a :: as)) mx = true) : pCallI j n ci mx st w = some (.inr (.inl (j, .ref a :: as, rest))) := by
  unfold pCallI
  simp only [hp, hw, h8, hm, Nat.beq_refl, Bool.and_self, cond_true]
theorem ps_callS {j n mx : Nat} {st as rest : List Value} (hp : pArgs n [] st = some (as, rest)) (h8 : Nat.ble (pCat rest) 8 = true) (hm : Nat.ble (pCat as) mx = true) : pCallS j n mx st = some (.inr (.inl (j, as, rest))) := by
  unfold pCallS
  simp only [hp, h8, hm, Bool.and_self, cond_true]
theorem pr_retE {i pc : Nat} {ins : Instr} {dt : List Nat} {lv : pLv} {st : List Value} {w : pW} {r r' : Option Value} (hI : pI i pc = some (ins, dt)) (h : pS1 ins pc dt lv st w = some (.inr (.inr r'))) (e : r' = r) : pRest i (pc, lv, st, w) r w := by
  subst e
  exact pr_ret hI h
theorem pr_eq {i : Nat} {q q' : pSt} {r : Option Value} {w1 : pW} (e : q = q') (K : pRest i q' r w1) : pRest i q r w1 := by
  subst e
  exact K
-- runs with short cuts: a method that a short cut knows isn't run
abbrev pOr : Type := Nat → List Value → pW → Option (Option Value × pW)
def pThenX (O : pOr) (go : Nat → pSt → Option (Option Value × pW)) (i : Nat) (q : pSt) (o : Option pOut) : Option (Option Value × pW) := match o with
  | none => none
  | some (.inl q1) => go i q1
  | some (.inr (.inl (j, as, rest))) => (match (match O j as q.2.2.2 with
      | some x => some x
      | none => go j (0, lv_args 0 as, [], q.2.2.2)) with
    | none => none
    | some (r, w1) => go i (q.1 + 3, q.2.1, r.toList ++ rest, w1))
  | some (.inr (.inr r)) => some (r, q.2.2.2)
def pStepX (O : pOr) (go : Nat → pSt → Option (Option Value × pW)) (i : Nat) (q : pSt) : Option (Option Value × pW) := match pI i q.1 with
  | none => none
  | some e => pThenX O go i q (pS1 e.1 q.1 e.2 q.2.1 q.2.2.1 q.2.2.2)
noncomputable def pGoX (O : pOr) (n : Nat) : Nat → pSt → Option (Option Value × pW) := Nat.rec (fun _ _ => none) (fun _ ih => pStepX O ih) n
def pOrOK (O : pOr) : Prop := ∀ (j : Nat) (as : List Value) (w : pW) (r : Option Value) (w1 : pW), O j as w = some (r, w1) → pRun j as w r w1
theorem pGoX_ok {O : pOr} (hO : pOrOK O) : ∀ (n i : Nat) (q : pSt) (r : Option Value) (w1 : pW), pGoX O n i q = some (r, w1) → pRest i q r w1 := by
  intro n
  induction n with
  | zero => intro i q r w1 h; cases h
  | succ n ih =>
    intro i q r w1 h
    obtain ⟨pc, lv, st, w⟩ := q
    have h : pStepX O (pGoX O n) i (pc, lv, st, w) = some (r, w1) := h
    unfold pStepX at h
    split at h
    · cases h
    · rename_i e hI
      obtain ⟨ins, dt⟩ := e
      unfold pThenX at h
      split at h
      · cases h
      · rename_i q1 h1
        exact pr_go hI h1 (ih _ _ _ _ h)
      · rename_i j as rest h1
        split at h
        · cases h
        · rename_i r2 w2 h2
          have hr : pRun j as w r2 w2 := by
            split at h2
            · rename_i x hx
              cases h2
              exact hO _ _ _ _ _ hx
            · exact ih _ _ _ _ h2
          exact pr_call hI h1 hr (ih _ _ _ _ h)
      · rename_i r1 h1
        cases h
        exact pr_ret hI h1
def qE (i : Nat) (q : pSt) (Φ : Option Value → pW → Prop) : Prop := ∃ r w', Φ r w' ∧ pRest i q r w'
def qC (j : Nat) (as : List Value) (w : pW) (Φ : Option Value → pW → Prop) : Prop := ∃ r w', Φ r w' ∧ pRun j as w r w'
theorem pe_go {i pc : Nat} {ins : Instr} {dt : List Nat} {lv : pLv} {st : List Value} {w : pW} {q : pSt} {Φ : Option Value → pW → Prop} (hI : pI i pc = some (ins, dt)) (h : pS1 ins pc dt lv st w = some (.inl q)) (K : qE i q Φ) : qE i (pc, lv, st, w) Φ := by
  obtain ⟨r, w', h1, h2⟩ := K
  exact ⟨r, w', h1, pr_go hI h h2⟩
theorem pe_call {i pc : Nat} {ins : Instr} {dt : List Nat} {lv : pLv} {st : List Value} {w : pW} {j : Nat} {as rest : List Value} {r1 : Option Value} {w1 : pW} {Φ : Option Value → pW → Prop} (hI : pI i pc = some (ins, dt)) (h : pS1 ins pc dt lv st w = some (.inr (.inl (j, as, rest)))) (hc : pRun j as w r1 w1) (K : qE i (pc + 3, lv, r1.toList ++ rest, w1) Φ) : qE i (pc, lv, st, w) Φ := by
  obtain ⟨r, w', h1, h2⟩ := K
  exact ⟨r, w', h1, pr_call hI h hc h2⟩
theorem pe_callE {i pc : Nat} {ins : Instr} {dt : List Nat} {lv : pLv} {st : List Value} {w : pW} {j : Nat} {as rest : List Value} {Φ Ψ : Option Value → pW → Prop} (hI : pI i pc = some (ins, dt)) (h : pS1 ins pc dt lv st w = some (.inr (.inl (j, as, rest)))) (hc : qC j as w Ψ) (K : ∀ r1 w1, Ψ r1 w1 → qE i (pc + 3, lv, r1.toList ++ rest, w1) Φ) : qE i (pc, lv, st, w) Φ := by
  obtain ⟨r1, w1, h1, h2⟩ := hc
  exact pe_call hI h h2 (K r1 w1 h1)
theorem pe_ret {i pc : Nat} {ins : Instr} {dt : List Nat} {lv : pLv} {st : List Value} {w : pW} {r : Option Value} {Φ : Option Value → pW → Prop} (hI : pI i pc = some (ins, dt)) (h : pS1 ins pc dt lv st w = some (.inr (.inr r))) (hp : Φ r w) : qE i (pc, lv, st, w) Φ := ⟨r, w, hp, pr_ret hI h⟩
theorem pc_run {j : Nat} {as : List Value} {w : pW} {lv : pLv} {Φ : Option Value → pW → Prop} (hlv : lv_args 0 as = lv) (K : qE j (0, lv, [], w) Φ) : qC j as w Φ := by
  obtain ⟨r, w', h1, h2⟩ := K
  exact ⟨r, w', h1, pr_run hlv h2⟩
theorem pe_less {i pc : Nat} {lv lv' : pLv} {st : List Value} {w : pW} {Φ : Option Value → pW → Prop} (H : lvLe lv lv') (K : qE i (pc, lv, st, w) Φ) : qE i (pc, lv', st, w) Φ := by
  obtain ⟨r, w', h1, h2⟩ := K
  exact ⟨r, w', h1, pr_less H h2⟩
theorem pe_mono {i : Nat} {q : pSt} {Φ Ψ : Option Value → pW → Prop} (H : ∀ r w, Φ r w → Ψ r w) (K : qE i q Φ) : qE i q Ψ := by
  obtain ⟨r, w', h1, h2⟩ := K
  exact ⟨r, w', H r w' h1, h2⟩
