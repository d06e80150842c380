/-! ONE INSTRUCTION OF THE PLAIN MACHINE IS ONE OF THE MACHINE: stack, division, tables, fields, arrays, what is made. -/
section PST2
variable {p : Program} {l : Launch} {e : Env} {R : Room} {s : State} {m : MethodId} {args : Array Value} {below : List Frame} {meth : Method} {c : Code} {D : va_G} {b : pBas} {n0 z0 i : Nat} {cA : Nat → ClassId} {Q : State → Prop}
variable {pc : Nat} {dt : List Nat} {lv : pLv} {st : List Value} {w : pW} {q : pSt}
theorem pDup_k (C : pCtx p R s m args meth c D b n0 i cA) (h : pDup (pc + 1) lv st w = some (.inl q)) (hd : decode (pB i) pc = .ok (.dup, 1)) (k : pK p l e R s m args below meth c D b n0 z0 i cA Q q) : pK p l e R s m args below meth c D b n0 z0 i cA Q (pc, lv, st, w) := by
  intro H locs ls hA hl
  unfold pDup pGo1 at h
  split at h
  · rename_i v st'
    by_cases hc : Nat.beq v.category 1 = true
    · rw [hc] at h
      cases h
      exact lv_dup C.1 C.2.1 hd (by rw [pv_cat]; exact pBeq hc) (k H locs ls hA hl)
    · simp only [Bool.not_eq_true] at hc
      rw [hc] at h
      cases h
  · cases h
theorem pPop_k (C : pCtx p R s m args meth c D b n0 i cA) (h : pPop (pc + 1) lv st w = some (.inl q)) (hd : decode (pB i) pc = .ok (.pop, 1)) (k : pK p l e R s m args below meth c D b n0 z0 i cA Q q) : pK p l e R s m args below meth c D b n0 z0 i cA Q (pc, lv, st, w) := by
  intro H locs ls hA hl
  unfold pPop pGo1 at h
  split at h
  · rename_i v st'
    by_cases hc : Nat.beq v.category 1 = true
    · rw [hc] at h
      cases h
      exact lv_pop C.1 C.2.1 hd (by rw [pv_cat]; exact pBeq hc) (k H locs ls hA hl)
    · simp only [Bool.not_eq_true] at hc
      rw [hc] at h
      cases h
  · cases h
theorem pDup2_k (C : pCtx p R s m args meth c D b n0 i cA) (h : pDup2 (pc + 1) lv st w = some (.inl q)) (hd : decode (pB i) pc = .ok (.dup2, 1)) (k : pK p l e R s m args below meth c D b n0 z0 i cA Q q) : pK p l e R s m args below meth c D b n0 z0 i cA Q (pc, lv, st, w) := by
  intro H locs ls hA hl
  unfold pDup2 pGo1 at h
  split at h
  · rename_i v st'
    by_cases hc : Nat.beq v.category 2 = true
    · rw [hc] at h
      cases h
      exact lv_dup2_2 C.1 C.2.1 hd (by rw [pv_cat]; exact pBeq hc) (k H locs ls hA hl)
    · simp only [Bool.not_eq_true] at hc
      rw [hc] at h
      simp only [cond_false] at h
      split at h
      · rename_i u st''
        by_cases hc2 : (Nat.beq v.category 1 && Nat.beq u.category 1) = true
        · rw [hc2] at h
          cases h
          rw [Bool.and_eq_true] at hc2
          exact lv_dup2_11 C.1 C.2.1 hd (by rw [pv_cat]; exact pBeq hc2.1) (by rw [pv_cat]; exact pBeq hc2.2) (k H locs ls hA hl)
        · simp only [Bool.not_eq_true] at hc2
          rw [hc2] at h
          cases h
      · cases h
  · cases h
theorem pDiv_k {pc' : Nat} {f : Int32 → Int32 → Int32} (h : pDiv pc' lv st w f = some (.inl q))
    (row : ∀ (H : Heap) (locs : List Loc) (ls : Array Slot) (cells slots : Nat) (x y : Int32) (rest : List Value), ¬ y = 0 → W p l e R s m args below meth c H locs cells slots Q (F0 m pc' ls (.int (f x y) :: rest)) → W p l e R s m args below meth c H locs cells slots Q (F0 m pc ls (.int y :: .int x :: rest)))
    (k : pK p l e R s m args below meth c D b n0 z0 i cA Q q) : pK p l e R s m args below meth c D b n0 z0 i cA Q (pc, lv, st, w) := by
  intro H locs ls hA hl
  unfold pDiv pGo1 at h
  split at h
  · rename_i y x st'
    by_cases hy : y = 0
    · simp only [hy, decide_true, cond_true] at h
      cases h
    · simp only [hy, decide_false, cond_false] at h
      cases h
      exact row H locs ls _ _ _ _ _ hy (k H locs ls hA hl)
  · cases h
theorem pDivL_k {pc' : Nat} {f : Int64 → Int64 → Int64} (h : pDivL pc' lv st w f = some (.inl q))
    (row : ∀ (H : Heap) (locs : List Loc) (ls : Array Slot) (cells slots : Nat) (x y : Int64) (rest : List Value), ¬ y = 0 → W p l e R s m args below meth c H locs cells slots Q (F0 m pc' ls (.long (f x y) :: rest)) → W p l e R s m args below meth c H locs cells slots Q (F0 m pc ls (.long y :: .long x :: rest)))
    (k : pK p l e R s m args below meth c D b n0 z0 i cA Q q) : pK p l e R s m args below meth c D b n0 z0 i cA Q (pc, lv, st, w) := by
  intro H locs ls hA hl
  unfold pDivL pGo1 at h
  split at h
  · rename_i y x st'
    by_cases hy : y = 0
    · simp only [hy, decide_true, cond_true] at h
      cases h
    · simp only [hy, decide_false, cond_false] at h
      cases h
      exact row H locs ls _ _ _ _ _ hy (k H locs ls hA hl)
  · cases h
theorem pDivD_k {pc' : Nat} {f : UInt64 → UInt64 → UInt64} (h : pDivD pc' lv st w f = some (.inl q))
    (row : ∀ (H : Heap) (locs : List Loc) (ls : Array Slot) (cells slots : Nat) (x y : UInt64) (rest : List Value), vf_n64 (f x y) → W p l e R s m args below meth c H locs cells slots Q (F0 m pc' ls (.double (f x y) :: rest)) → W p l e R s m args below meth c H locs cells slots Q (F0 m pc ls (.double y :: .double x :: rest)))
    (k : pK p l e R s m args below meth c D b n0 z0 i cA Q q) : pK p l e R s m args below meth c D b n0 z0 i cA Q (pc, lv, st, w) := by
  intro H locs ls hA hl
  unfold pDivD pGo1 at h
  split at h
  · rename_i y x st'
    by_cases hy : (f x y) &&& 0x7fffffffffffffff ≤ 0x7ff0000000000000
    · simp only [hy, decide_true, cond_true] at h
      cases h
      exact row H locs ls _ _ _ _ _ hy (k H locs ls hA hl)
    · simp only [hy, decide_false, cond_false] at h
      cases h
  · cases h
theorem pTab_k {dflt lo hi : Int} {offs : Array Int} {len : Nat} (C : pCtx p R s m args meth c D b n0 i cA) (h : pTab lo hi dt lv st w = some (.inl q)) (hd : decode (pB i) pc = .ok (.tableswitch dflt lo hi offs, len)) (hdat : pDat i pc (.tableswitch dflt lo hi offs) dt = true)
    (k : pK p l e R s m args below meth c D b n0 z0 i cA Q q) : pK p l e R s m args below meth c D b n0 z0 i cA Q (pc, lv, st, w) := by
  intro H locs ls hA hl
  unfold pTab pGo1 at h
  split at h
  · rename_i x st' t ts
    simp only [pDat, Bool.and_eq_true, decide_eq_true_eq] at hdat
    obtain ⟨h1, h2⟩ := hdat
    by_cases ho : x.toInt < lo ∨ hi < x.toInt
    · have hb : (decide (x.toInt < lo) || decide (hi < x.toInt)) = true := by simpa using ho
      rw [hb] at h
      cases h
      exact lv_tableOut C.1 C.2.1 hd ho h1 (k H locs ls hA hl)
    · have hb : (decide (x.toInt < lo) || decide (hi < x.toInt)) = false := by
        simp only [Bool.or_eq_false_iff, decide_eq_false_iff_not]
        exact ⟨fun z => ho (Or.inl z), fun z => ho (Or.inr z)⟩
      rw [hb] at h
      simp only [cond_false] at h
      split at h
      · rename_i t' ht'
        cases h
        have h3 : (offs.toList.map (fun o => (pc : Int) + o))[(x.toInt - lo).toNat]? = some (t' : Int) := by
          rw [h2, List.getElem?_map, ht']; rfl
        rw [List.getElem?_map] at h3
        cases h4 : offs.toList[(x.toInt - lo).toNat]? with
        | none => rw [h4] at h3; cases h3
        | some o =>
          rw [h4] at h3
          simp only [Option.map_some, Option.some.injEq] at h3
          exact lv_tableIn C.1 C.2.1 hd (fun z => ho (Or.inl z)) (fun z => ho (Or.inr z)) (by rw [← Array.getElem?_toList]; exact h4) h3 (k H locs ls hA hl)
      · cases h
  · cases h
theorem pVw_N : ∀ k, k < 10 → ∀ q : vw_C, vwCl[k]? = some q → q.1 = pN k := by
  intro k hk q hq
  match k, hq with
  | 0, hq => cases hq; rfl
  | 1, hq => cases hq; rfl
  | 2, hq => cases hq; rfl
  | 3, hq => cases hq; rfl
  | 4, hq => cases hq; rfl
  | 5, hq => cases hq; rfl
  | 6, hq => cases hq; rfl
  | 7, hq => cases hq; rfl
  | 8, hq => cases hq; rfl
  | 9, hq => cases hq; rfl
  | k + 10, hq => omega
theorem pFl_use {idx ci j e9 : Nat} {o : Nat} (h : (match pFlL[e9]? with
          | some q => Nat.beq q.1 o && Nat.beq q.2.1 idx && Nat.beq q.2.2.1 ci && Nat.beq q.2.2.2.1 j
          | none => false) = true) : ∃ c9 : vw_C, vwCl[ci]? = some c9 ∧ j < c9.2.2 ∧ Cond.fieldLink (pN o) idx c9.1 (c9.2.1 j).2.1 (c9.2.1 j).2.2.1 ∈ pG0 ∧ (c9.2.1 j).1 = c9.1 := by
  split at h
  · rename_i q hq
    simp only [Bool.and_eq_true] at h
    obtain ⟨⟨⟨h1, h2⟩, h3⟩, h4⟩ := h
    have := pFl_all q (List.mem_of_getElem? hq)
    unfold pFlF at this
    rw [pBeq h1, pBeq h2, pBeq h3, pBeq h4] at this
    exact this
  · cases h
theorem pGetF_k {idx : Nat} (C : pCtx p R s m args meth c D b n0 i cA) (h : pGetF (pc + 3) dt lv st w = some (.inl q)) (hd : decode (pB i) pc = .ok (.getfield idx, 3)) (hdat : pDat i pc (.getfield idx) dt = true)
    (k : pK p l e R s m args below meth c D b n0 z0 i cA Q q) : pK p l e R s m args below meth c D b n0 z0 i cA Q (pc, lv, st, w) := by
  intro H locs ls hA hl
  obtain ⟨hx, hb, hml, hr, hown, hts, hN, hK, hlk, hnm, hsz, hRf, hRl⟩ := C
  unfold pGetF pGo1 at h
  split at h
  · rename_i a st' ci j e9
    split at h
    · rename_i c1 fs hw
      by_cases hc : Nat.beq c1 ci = true
      · rw [hc] at h
        simp only [cond_true] at h
        split at h
        · rename_i v hv
          cases h
          have hc := pBeq hc
          subst hc
          obtain ⟨c9, hc9, hk9, hl9, hs9⟩ := pFl_use hdat
          refine va_get (D := D) (ci := c1) (v := pv b v) (C := c9.1) (T := c9.2.1) (N := c9.2.2) (ref := c9.1) (fs := fs.map (pv b)) hx hb hts (pU_in i c1 c9 hc9) hown hK hA.1.1 (a - 1) (pwv_at hw (pPos hA hw rfl)) hc9 j hk9 (hts _ (id hl9)) (fun x hx => by rw [hs9] at hx; exact hx) (by rw [List.getElem?_map, hv]; rfl) hd ?_
          exact k H locs ls hA hl
        · cases h
      · simp only [Bool.not_eq_true] at hc
        rw [hc] at h
        cases h
    · cases h
  · cases h
theorem pFits_ok {ty : FieldType} {v : Value} (h : pFits ty v = true) : narrow ty (pv b v) = pv b v ∧ fits ty (pv b v) = true := by
  cases ty <;> cases v <;> first | (cases h; done) | exact ⟨rfl, rfl⟩
theorem pPutF_k {idx : Nat} (C : pCtx p R s m args meth c D b n0 i cA) (h : pPutF (pc + 3) dt lv st w = some (.inl q)) (hd : decode (pB i) pc = .ok (.putfield idx, 3)) (hdat : pDat i pc (.putfield idx) dt = true)
    (k : pK p l e R s m args below meth c D b n0 z0 i cA Q q) : pK p l e R s m args below meth c D b n0 z0 i cA Q (pc, lv, st, w) := by
  intro H locs ls hA hl
  obtain ⟨hx, hb, hml, hr, hown, hts, hN, hK, hlk, hnm, hsz, hRf, hRl⟩ := C
  unfold pPutF pGo1 at h
  split at h
  · rename_i v a st' ci j e9
    split at h
    · rename_i c1 fs hw
      by_cases hc : (Nat.beq c1 ci && Nat.ble (j + 1) fs.length && pFits (pTf ci j) v) = true
      · rw [hc] at h
        cases h
        simp only [Bool.and_eq_true] at hc
        obtain ⟨⟨hc, hj⟩, hfit⟩ := hc
        have hc := pBeq hc
        subst hc
        have hj : j < fs.length := pBle hj
        simp only [pDat, Bool.and_eq_true] at hdat
        obtain ⟨hd1, hd2⟩ := hdat
        obtain ⟨c9, hc9, hk9, hl9, hs9⟩ := pFl_use hd1
        obtain ⟨tyf, ht1, ht2, ht3⟩ := pTy_all c1 c9 hc9
        have htf : pTf c1 j = tyf j := by
          unfold pTf
          rw [List.getD_eq_getElem?_getD, ht1]; rfl
        rw [htf] at hfit
        obtain ⟨hf1, hf2⟩ := pFits_ok (b := b) hfit
        have h1a := pPos hA hw rfl
        have go : ∀ (H1 : Heap) (locs1 : List Loc), va_P D vwCl ((pwv b cA w).set (a - 1) (pAdr b a, .inr (c1, (fs.map (pv b)).set j (pv b v)))) H1 → va_D (pAdS b) ((pwv b cA w).set (a - 1) (pAdr b a, .inr (c1, (fs.map (pv b)).set j (pv b v)))) → va_S (pAdS b) s.heap H1 locs1 → W p l e R s m args below meth c H1 locs1 (w.length - n0) (pwsz w - z0) Q (F0 m (pc + 3) ls (st'.map (pv b))) := by
          intro H1 locs1 hP _ hS
          have e1 : (pwv b cA w).set (a - 1) (pAdr b a, .inr (c1, (fs.map (pv b)).set j (pv b v))) = pwv b cA (w.set a (.inr (c1, fs.set j v))) := by
            rw [← pwv_set _ _ _ _ _ h1a]
            unfold pcel
            simp only [List.map_set]
          rw [e1] at hP
          have := k H1 locs1 ls ⟨⟨hP, pScr_set hA.1.2 h1a⟩, hS⟩ hl
          simp only [List.length_set] at this
          rw [pwsz_set hw (by simp [pcsz])] at this
          exact this
        rw [hc9] at hd2
        simp only [Bool.or_eq_true, Bool.not_eq_true', Bool.and_eq_true, decide_eq_true_eq] at hd2
        by_cases hfin : (c9.2.1 j).2.2.2 = true
        · have hd3 : ((pY i).name = "<init>" ∧ Nat.beq (pO i) c1 = true) ∧ Nat.ble (c1 + 1) 10 = true := by
            rcases hd2 with z | z
            · rw [hfin] at z; cases z
            · exact z
          have hown9 : (c9.2.1 j).1 = pN (pO i) := by
            rw [hs9, pBeq hd3.1.2]
            exact pVw_N c1 (pBle hd3.2) c9 hc9
          exact va_putF (D := D) (ci := c1) (v := pv b v) (ty := tyf j) (C := c9.1) (T := c9.2.1) (N := c9.2.2) (ref := c9.1) (fs := fs.map (pv b)) hx hb hts (pU_in i c1 c9 hc9) tyf ht2 ht3 hown hK hA.1.1 (pwv_D b cA w) hA.2 (a - 1) (pwv_at hw h1a) hc9 j hk9 (hts _ (id hl9)) (fun x hx => by rw [hs9] at hx; exact hx) hfin (by rw [hnm]; exact hd3.1.1) hown9 (ht2 j hk9) hf1 hf2 (by rw [List.length_map]; exact hj) hd go
        · simp only [Bool.not_eq_true] at hfin
          exact va_put (D := D) (ci := c1) (v := pv b v) (ty := tyf j) (C := c9.1) (T := c9.2.1) (N := c9.2.2) (ref := c9.1) (fs := fs.map (pv b)) hx hb hts (pU_in i c1 c9 hc9) tyf ht2 ht3 hown hK hA.1.1 (pwv_D b cA w) hA.2 (a - 1) (pwv_at hw h1a) hc9 j hk9 (hts _ (id hl9)) (fun x hx => by rw [hs9] at hx; exact hx) hfin (ht2 j hk9) hf1 hf2 (by rw [List.length_map]; exact hj) hd go
      · simp only [Bool.not_eq_true] at hc
        rw [hc] at h
        cases h
    · cases h
  · cases h
end PST2
