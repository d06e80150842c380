/-! ONE INSTRUCTION OF THE PLAIN MACHINE IS ONE OF THE MACHINE: natives, and all together. -/
section PST4
variable {p : Program} {l : Launch} {e : Env} {R : Room} {s : State} {m : MethodId} {args : Array Value} {below : List Frame} {meth : Method} {c : Code} {D : va_G} {b : pBas} {n0 z0 i : Nat} {cA : Nat → ClassId} {Q : State → Prop}
variable {pc : Nat} {dt : List Nat} {lv : pLv} {st : List Value} {w : pW} {q : pSt}
theorem pInc_k {j : Nat} {n : Int} (C : pCtx p R s m args meth c D b n0 i cA) (h : pInc (pc + 3) lv j n st w = some (.inl q)) (hd : decode (pB i) pc = .ok (.iinc j n, 3)) (hj : j < pX i)
    (k : pK p l e R s m args below meth c D b n0 z0 i cA Q q) : pK p l e R s m args below meth c D b n0 z0 i cA Q (pc, lv, st, w) := by
  intro H locs ls hA hl
  unfold pInc pGo1 at h
  split at h
  · rename_i x hx
    cases h
    obtain ⟨j9, hj9⟩ := pGet_at (b := b) hx
    exact lv_iinc C.1 C.2.1 hd hl hj9 rfl hj (pw2_set1 b lv j (.int _)) (fun ls' hl' => k H locs ls' hA hl')
  · cases h
theorem pGoto_k {off : Int} (C : pCtx p R s m args meth c D b n0 i cA) (h : pGoto dt lv st w = some (.inl q)) (hd : decode (pB i) pc = .ok (.goto off, 3)) (hdat : pDat i pc (.goto off) dt = true)
    (k : pK p l e R s m args below meth c D b n0 z0 i cA Q q) : pK p l e R s m args below meth c D b n0 z0 i cA Q (pc, lv, st, w) := by
  intro H locs ls hA hl
  unfold pGoto pGo1 at h
  split at h
  · cases h
    exact lv_goto C.1 C.2.1 hd (of_decide_eq_true hdat) (k H locs ls hA hl)
  · cases h
theorem pK1_k {pc' : Nat} (h : pK1 pc' dt lv st w = some (.inl q))
    (row : ∀ (v : Nat), dt = [v] → ∀ (H : Heap) (locs : List Loc) (ls : Array Slot) (cells slots : Nat) (rest : List Value), W p l e R s m args below meth c H locs cells slots Q (F0 m pc' ls (.int (Int32.ofNat v) :: rest)) → W p l e R s m args below meth c H locs cells slots Q (F0 m pc ls rest))
    (k : pK p l e R s m args below meth c D b n0 z0 i cA Q q) : pK p l e R s m args below meth c D b n0 z0 i cA Q (pc, lv, st, w) := by
  intro H locs ls hA hl
  unfold pK1 pGo1 at h
  split at h
  · cases h
    exact row _ rfl H locs ls _ _ _ (k H locs ls hA hl)
  · cases h
theorem pKi_use {idx v e9 o : Nat} (h : (match pKiL[e9]? with
          | some q => Nat.beq q.1 o && Nat.beq q.2.1 idx && decide (q.2.2.1 = Int32.ofNat v)
          | none => false) = true) : Cond.constant (pN o) idx (Int32.ofNat v) ∈ pG0 := by
  split at h
  · rename_i q hq
    simp only [Bool.and_eq_true, decide_eq_true_eq] at h
    have := pKi_all q (List.mem_of_getElem? hq)
    unfold pKiF at this
    rw [pBeq h.1.1, pBeq h.1.2, h.2] at this
    exact this
  · cases h
theorem pKl_use {idx v e9 o : Nat} (h : (match pKlL[e9]? with
          | some q => Nat.beq q.1 o && Nat.beq q.2.1 idx && decide (q.2.2.1 = Int64.ofNat v)
          | none => false) = true) : Cond.constantLong (pN o) idx (Int64.ofNat v) ∈ pG0 := by
  split at h
  · rename_i q hq
    simp only [Bool.and_eq_true, decide_eq_true_eq] at h
    have := pKl_all q (List.mem_of_getElem? hq)
    unfold pKlF at this
    rw [pBeq h.1.1, pBeq h.1.2, h.2] at this
    exact this
  · cases h
theorem pKd_use {idx v e9 o : Nat} (h : (match pKdL[e9]? with
          | some q => Nat.beq q.1 o && Nat.beq q.2.1 idx && decide (q.2.2.1 = UInt64.ofNat v)
          | none => false) = true) : Cond.constantDouble (pN o) idx (UInt64.ofNat v) ∈ pG0 := by
  split at h
  · rename_i q hq
    simp only [Bool.and_eq_true, decide_eq_true_eq] at h
    have := pKd_all q (List.mem_of_getElem? hq)
    unfold pKdF at this
    rw [pBeq h.1.1, pBeq h.1.2, h.2] at this
    exact this
  · cases h
theorem pLdc_k {idx : Nat} (C : pCtx p R s m args meth c D b n0 i cA) (h : pLdc (pc + 2) dt lv st w = some (.inl q)) (hd : decode (pB i) pc = .ok (.ldc idx, 2)) (hdat : pDat i pc (.ldc idx) dt = true)
    (k : pK p l e R s m args below meth c D b n0 z0 i cA Q q) : pK p l e R s m args below meth c D b n0 z0 i cA Q (pc, lv, st, w) := by
  intro H locs ls hA hl
  unfold pLdc pGo1 at h
  split at h
  · cases h
    exact lv_ldc C.1 C.2.1 C.2.2.2.2.1 (C.2.2.2.2.2.1 _ (id (pKi_use hdat))) hd (k H locs ls hA hl)
  · cases h
theorem pLdcw_k {idx : Nat} (C : pCtx p R s m args meth c D b n0 i cA) (h : pLdc (pc + 3) dt lv st w = some (.inl q)) (hd : decode (pB i) pc = .ok (.ldc_w idx, 3)) (hdat : pDat i pc (.ldc_w idx) dt = true)
    (k : pK p l e R s m args below meth c D b n0 z0 i cA Q q) : pK p l e R s m args below meth c D b n0 z0 i cA Q (pc, lv, st, w) := by
  intro H locs ls hA hl
  unfold pLdc pGo1 at h
  split at h
  · cases h
    exact lv_ldcw C.1 C.2.1 C.2.2.2.2.1 (C.2.2.2.2.2.1 _ (id (pKi_use hdat))) hd (k H locs ls hA hl)
  · cases h
theorem pLdc2_k {idx : Nat} (C : pCtx p R s m args meth c D b n0 i cA) (h : pLdc2 (pc + 3) dt lv st w = some (.inl q)) (hd : decode (pB i) pc = .ok (.ldc2_w idx, 3)) (hdat : pDat i pc (.ldc2_w idx) dt = true)
    (k : pK p l e R s m args below meth c D b n0 z0 i cA Q q) : pK p l e R s m args below meth c D b n0 z0 i cA Q (pc, lv, st, w) := by
  intro H locs ls hA hl
  unfold pLdc2 pGo1 at h
  split at h
  · cases h
    exact lv_ldc2 C.1 C.2.1 C.2.2.2.2.1 (C.2.2.2.2.2.1 _ (id (pKl_use hdat))) hd (k H locs ls hA hl)
  · cases h
    cases hdat
  · cases h
theorem pCat_le {st : List Value} (h : pCat st ≤ 8) : ((st.map (pv b)).map (fun v => v.category)).sum ≤ 8 := by rw [pCat_sum]; exact h
theorem pNoRef_k {idx j n e9 ci mx : Nat} (C : pCtx p R s m args meth c D b n0 i cA) (h : pNoRef pc lv st w = some (.inl q)) (hd : decode (pB i) pc = .ok (.invokespecial idx, 3)) (hdat : pCallOK i idx [0, 3, 5] [0, j, n, e9, ci, mx] = true)
    (k : pK p l e R s m args below meth c D b n0 z0 i cA Q q) : pK p l e R s m args below meth c D b n0 z0 i cA Q (pc, lv, st, w) := by
  intro H locs ls hA hl
  obtain ⟨hx, hb, hml, hr, hown, hts, hN, hK, hlk, hnm, hsz, hRf, hRl⟩ := C
  unfold pNoRef at h
  split at h
  · rename_i a st'
    obtain ⟨h8, rfl⟩ := pOK8_inv h
    unfold pCallOK at hdat
    simp only [Bool.and_eq_true] at hdat
    obtain ⟨⟨-, h1⟩, h2, h3⟩ := hdat
    obtain ⟨q9, hF, e1, e2, e3, e4⟩ := pCa_use h1
    unfold pCaF at hF
    rw [e3, e1, e2] at hF
    refine W.objInit hx hb hown (hts _ (id hF.1)) (hts _ (id hF.2)) (hts _ (id pObjC)) rfl (by rw [hml]; exact hl.1) rfl hd (Nat.le_trans (pBle h2) hRf) ?_ (W.eq (g2 := F0 m (pc + 3) ls (st'.map (pv b))) rfl (k H locs ls hA hl))
    have h4 := lv_room (m := m) (pc := pc) (ls := ls) (rest := Value.ref (pAdr b a) :: st'.map (pv b)) (pCat_le (b := b) h8)
    have h5 : 20 ≤ pLo i := pBle h3
    have h6 : 2 * (F0 m pc ls (Value.ref (pAdr b a) :: st'.map (pv b))).monitorRoom + ((st'.map (pv b)).map (fun v => v.category)).sum + 12 ≤ R.locals := by omega
    exact h6
  · cases h
theorem pD2l_k {idx j n e9 ci mx : Nat} (C : pCtx p R s m args meth c D b n0 i cA) (h : pD2l pc lv st w = some (.inl q)) (hd : decode (pB i) pc = .ok (.invokestatic idx, 3)) (hdat : pCallOK i idx [2, 4, 7, 8] [8, j, n, e9, ci, mx] = true)
    (k : pK p l e R s m args below meth c D b n0 z0 i cA Q q) : pK p l e R s m args below meth c D b n0 z0 i cA Q (pc, lv, st, w) := by
  intro H locs ls hA hl
  obtain ⟨hx, hb, hml, hr, hown, hts, hN, hK, hlk, hnm, hsz, hRf, hRl⟩ := C
  unfold pD2l at h
  split at h
  · rename_i x st'
    obtain ⟨h8, rfl⟩ := pOK8_inv h
    unfold pCallOK at hdat
    simp only [Bool.and_eq_true] at hdat
    obtain ⟨⟨-, h1⟩, h2, h3⟩ := hdat
    obtain ⟨q9, hF, e1, e2, e3, e4⟩ := pCa_use h1
    unfold pCaF at hF
    rw [e3, e1, e2] at hF
    obtain ⟨f1, f2, f3, f4⟩ := hF
    have h5 : 23 ≤ pLo i := pBle h3
    have h6 := pCat_le (b := b) (st := st') (by unfold pCat at h8; omega)
    exact vn_d2l hx hb (by rw [hml]; exact hl.1.symm) hown (hts _ (id f1)) (hts _ (id f2)) (hts _ (id f3)) (hts _ (id f4)) (Nat.le_trans (pBle h2) hRf) (by omega) hd (k H locs ls hA hl)
  · cases h
theorem pCopy_k {idx j n e9 ci mx : Nat} (C : pCtx p R s m args meth c D b n0 i cA) (h : pCopy pc lv st w = some (.inl q)) (hd : decode (pB i) pc = .ok (.invokestatic idx, 3)) (hdat : pCallOK i idx [2, 4, 7, 8] [7, j, n, e9, ci, mx] = true)
    (k : pK p l e R s m args below meth c D b n0 z0 i cA Q q) : pK p l e R s m args below meth c D b n0 z0 i cA Q (pc, lv, st, w) := by
  intro H locs ls hA hl
  obtain ⟨hx, hb, hml, hr, hown, hts, hN, hK, hlk, hnm, hsz, hRf, hRl⟩ := C
  unfold pCallOK at hdat
  simp only [Bool.and_eq_true] at hdat
  obtain ⟨⟨-, h1⟩, h2, h3⟩ := hdat
  obtain ⟨q9, hF, e1, e2, e3, e4⟩ := pCa_use h1
  unfold pCaF at hF
  rw [e3, e1, e2] at hF
  obtain ⟨f1, f2, f3, f4⟩ := hF
  have h5 : 26 ≤ pLo i := pBle h3
  have hnf : nativeFrameWords "java/lang/System" "arraycopy" 5 = 7 := by decide +kernel
  unfold pCopy at h
  split at h
  · rename_i n9 dp a sp a0 st'
    by_cases hc : (!(decide (sp < 0)) && !(decide (dp < 0)) && !(decide (n9 < 0))) = true
    · rw [hc] at h
      simp only [cond_true] at h
      simp only [Bool.and_eq_true, Bool.not_eq_true', decide_eq_false_iff_not] at hc
      obtain ⟨⟨g1, g2⟩, g3⟩ := hc
      split at h
      · rename_i k0 m0 f k1 m1 g hw0 hw1
        by_cases hc : (Nat.beq k0 0 && Nat.beq k1 0 && Nat.ble (sp.toNatClampNeg + n9.toNatClampNeg) m0 && Nat.ble (dp.toNatClampNeg + n9.toNatClampNeg) m1) = true
        · rw [hc] at h
          simp only [cond_true] at h
          simp only [Bool.and_eq_true] at hc
          obtain ⟨⟨⟨k1e, k2e⟩, g4⟩, g5⟩ := hc
          have k1e := pBeq k1e
          have k2e := pBeq k2e
          subst k1e
          subst k2e
          obtain ⟨h8, rfl⟩ := pOK8_inv h
          have h6 := pCat_le (b := b) h8
          exact va_copyi hx hb (by rw [hml]; exact hl.1.symm) hown (hts _ (id f1)) (hts _ (id f2)) (hts _ (id f3)) (hts _ (id f4)) hK hA.1.1 (pwv_D b cA w) hA.2 (a0 - 1) (a - 1) 0 0 (pwv_at hw0 (pPos hA hw0 rfl)) (pwv_at hw1 (pPos hA hw1 rfl)) (ty := .int) rfl rfl rfl g1 g2 g3 (pBle g4) (pBle g5) (fun _ _ => rfl) (Nat.le_trans (pBle h2) hRf) (by rw [hnf]; omega) hd (fun H1 locs1 hP _ hS => pK_set (c1 := .inl (0, m1, .inl (va_cpy f g sp.toNatClampNeg dp.toNatClampNeg n9.toNatClampNeg))) hw1 rfl k hl hP hS hA rfl)
        · simp only [Bool.not_eq_true] at hc
          rw [hc] at h
          cases h
      · rename_i k0 m0 f k1 m1 g hw0 hw1
        by_cases hc : (Nat.beq k0 1 && Nat.beq k1 1 && Nat.ble (sp.toNatClampNeg + n9.toNatClampNeg) m0 && Nat.ble (dp.toNatClampNeg + n9.toNatClampNeg) m1) = true
        · rw [hc] at h
          simp only [cond_true] at h
          simp only [Bool.and_eq_true] at hc
          obtain ⟨⟨⟨k1e, k2e⟩, g4⟩, g5⟩ := hc
          have k1e := pBeq k1e
          have k2e := pBeq k2e
          subst k1e
          subst k2e
          obtain ⟨h8, rfl⟩ := pOK8_inv h
          have h6 := pCat_le (b := b) h8
          exact va_copyl hx hb (by rw [hml]; exact hl.1.symm) hown (hts _ (id f1)) (hts _ (id f2)) (hts _ (id f3)) (hts _ (id f4)) hK hA.1.1 (pwv_D b cA w) hA.2 (a0 - 1) (a - 1) 1 1 (pwv_at hw0 (pPos hA hw0 rfl)) (pwv_at hw1 (pPos hA hw1 rfl)) (ty := .long) rfl rfl rfl g1 g2 g3 (pBle g4) (pBle g5) (fun _ _ => rfl) (Nat.le_trans (pBle h2) hRf) (by rw [hnf]; omega) hd (fun H1 locs1 hP _ hS => pK_set (c1 := .inl (1, m1, .inr (.inl (va_cpy f g sp.toNatClampNeg dp.toNatClampNeg n9.toNatClampNeg)))) hw1 rfl k hl hP hS hA rfl)
        · simp only [Bool.not_eq_true] at hc
          rw [hc] at h
          cases h
      · cases h
    · simp only [Bool.not_eq_true] at hc
      rw [hc] at h
      cases h
  · cases h
theorem pCond {α : Type} {c : Bool} {x y z : α} (h : (bif c then x else y) = z) : (c = true ∧ x = z) ∨ (c = false ∧ y = z) := by
  cases c with
  | true => exact Or.inl ⟨rfl, h⟩
  | false => exact Or.inr ⟨rfl, h⟩
theorem pIret_no {dt : List Nat} {st : List Value} {q : pSt} (h : pIret dt st = some (.inl q)) : False := by
  unfold pIret at h
  split at h
  · cases h
  · rcases pCond h with ⟨_, h⟩ | ⟨_, h⟩ <;> cases h
  · cases h
theorem pLret_no {st : List Value} {q : pSt} (h : pLret st = some (.inl q)) : False := by
  unfold pLret at h
  split at h <;> cases h
theorem pVret_no {st : List Value} {q : pSt} (h : pVret st = some (.inl q)) : False := by
  unfold pVret at h
  split at h <;> cases h
theorem pCallI_no {j n ci mx : Nat} (h : pCallI j n ci mx st w = some (.inl q)) : False := by
  unfold pCallI at h
  split at h
  · split at h
    · rcases pCond h with ⟨_, h⟩ | ⟨_, h⟩ <;> cases h
    · cases h
  · cases h
theorem pCallS_no {j n mx : Nat} (h : pCallS j n mx st = some (.inl q)) : False := by
  unfold pCallS at h
  split at h
  · rcases pCond h with ⟨_, h⟩ | ⟨_, h⟩ <;> cases h
  · cases h
theorem pIfN_k {off : Int} {y : Bool} (C : pCtx p R s m args meth c D b n0 i cA) (h : pIfN pc dt lv st w y = some (.inl q)) (hd : (y = true ∧ decode (pB i) pc = .ok (.ifnull off, 3)) ∨ (y = false ∧ decode (pB i) pc = .ok (.ifnonnull off, 3))) (hdat : ∀ t, dt = [t] → (pc : Int) + off = (t : Int))
    (k : pK p l e R s m args below meth c D b n0 z0 i cA Q q) : pK p l e R s m args below meth c D b n0 z0 i cA Q (pc, lv, st, w) := by
  intro H locs ls hA hl
  unfold pIfN pBr pGo1 at h
  split at h
  · split at h
    · rename_i st' _ _ t
      rcases hd with ⟨rfl, hd⟩ | ⟨rfl, hd⟩
      · cases h
        exact lv_ifnullN C.1 C.2.1 hd (hdat _ rfl) (k H locs ls hA hl)
      · cases h
        exact lv_ifnonnullN C.1 C.2.1 hd (k H locs ls hA hl)
    · cases h
  · split at h
    · rename_i a9 st' _ _ t
      rcases hd with ⟨rfl, hd⟩ | ⟨rfl, hd⟩
      · cases h
        exact lv_ifnull C.1 C.2.1 hd (k H locs ls hA hl)
      · cases h
        exact lv_ifnonnull C.1 C.2.1 hd (hdat _ rfl) (k H locs ls hA hl)
    · cases h
  · cases h
theorem pAret_no {st : List Value} {q : pSt} (h : pAret st = some (.inl q)) : False := by
  unfold pAret at h
  split at h <;> cases h
theorem pInvV_k {idx : Nat} (C : pCtx p R s m args meth c D b n0 i cA) (h : pCall pc dt lv st w = some (.inl q)) (hd : decode (pB i) pc = .ok (.invokevirtual idx, 3)) (hdat : pCallOK i idx [1, 9] dt = true) (hn : n0 ≤ w.length) (hz : z0 ≤ pwsz w) (hc1 : q.2.2.2.length - n0 ≤ R.cells) (hc2 : pwsz q.2.2.2 - z0 ≤ R.slots)
    (k : pK p l e R s m args below meth c D b n0 z0 i cA Q q) : pK p l e R s m args below meth c D b n0 z0 i cA Q (pc, lv, st, w) := by
  unfold pCall at h
  split at h
  · rename_i kd j n e9 ci mx
    have hk : kd = 1 ∨ kd = 9 := by
      have h2 := hdat
      unfold pCallOK at h2
      simp only [Bool.and_eq_true] at h2
      simpa using h2.1.1
    rcases hk with z | z
    · subst z; exact (pCallI_no h).elim
    · subst z; exact pClone_k C h hd hdat hn hz hc1 hc2 k
  · cases h
theorem pInvI_k {idx : Nat} (C : pCtx p R s m args meth c D b n0 i cA) (h : pCall pc dt lv st w = some (.inl q)) (hd : decode (pB i) pc = .ok (.invokespecial idx, 3)) (hdat : pCallOK i idx [0, 3, 5] dt = true)
    (k : pK p l e R s m args below meth c D b n0 z0 i cA Q q) : pK p l e R s m args below meth c D b n0 z0 i cA Q (pc, lv, st, w) := by
  unfold pCall at h
  split at h
  · rename_i kd j n e9 ci mx
    have hk : kd = 0 ∨ kd = 3 ∨ kd = 5 := by
      have h2 := hdat
      unfold pCallOK at h2
      simp only [Bool.and_eq_true] at h2
      simpa using h2.1.1
    rcases hk with z | z | z
    · subst z; exact pNoRef_k C h hd hdat k
    · subst z; exact (pCallI_no h).elim
    · subst z; exact (pCallI_no h).elim
  · cases h
theorem pInvS_k {idx : Nat} (C : pCtx p R s m args meth c D b n0 i cA) (h : pCall pc dt lv st w = some (.inl q)) (hd : decode (pB i) pc = .ok (.invokestatic idx, 3)) (hdat : pCallOK i idx [2, 4, 7, 8] dt = true)
    (k : pK p l e R s m args below meth c D b n0 z0 i cA Q q) : pK p l e R s m args below meth c D b n0 z0 i cA Q (pc, lv, st, w) := by
  unfold pCall at h
  split at h
  · rename_i kd j n e9 ci mx
    have hk : kd = 2 ∨ kd = 4 ∨ kd = 7 ∨ kd = 8 := by
      have h2 := hdat
      unfold pCallOK at h2
      simp only [Bool.and_eq_true] at h2
      simpa using h2.1.1
    rcases hk with z | z | z | z
    · subst z; exact (pCallS_no h).elim
    · subst z; exact (pCallS_no h).elim
    · subst z; exact pCopy_k C h hd hdat k
    · subst z; exact pD2l_k C h hd hdat k
  · cases h
set_option maxHeartbeats 4000000 in
set_option maxRecDepth 100000 in
/-- one instruction that goes on -/
theorem pstep {ins : Instr} (C : pCtx p R s m args meth c D b n0 i cA) (hI : pI i pc = some (ins, dt)) (h : pS1 ins pc dt lv st w = some (.inl q)) (hn : n0 ≤ w.length) (hz : z0 ≤ pwsz w) (hc1 : q.2.2.2.length - n0 ≤ R.cells) (hc2 : pwsz q.2.2.2 - z0 ≤ R.slots)
    (k : pK p l e R s m args below meth c D b n0 z0 i cA Q q) : pK p l e R s m args below meth c D b n0 z0 i cA Q (pc, lv, st, w) := by
  have hchk := pI_ok hI
  unfold pChk at hchk
  simp only [Bool.and_eq_true, decide_eq_true_eq] at hchk
  obtain ⟨hd, hdat⟩ := hchk
  clear hI
  cases ins with
  | iconst n => exact pK1_k h (fun v hv H locs ls cells slots rest k => by subst hv; exact lv_iconst C.1 C.2.1 hd (of_decide_eq_true hdat) k) k
  | bipush n => exact pK1_k h (fun v hv H locs ls cells slots rest k => by subst hv; exact lv_bipush C.1 C.2.1 hd (of_decide_eq_true hdat) k) k
  | sipush n => exact pK1_k h (fun v hv H locs ls cells slots rest k => by subst hv; exact lv_sipush C.1 C.2.1 hd (of_decide_eq_true hdat) k) k
  | lconst n => exact pC_k h rfl (fun H locs ls cells slots rest k => lv_lconst C.1 C.2.1 hd rfl k) k
  | iload_n j => exact pLd1_k h (fun H locs ls cells slots x rest hx k => lv_iload_n C.1 C.2.1 hd rfl hx k) k
  | iload j => exact pLd1_k h (fun H locs ls cells slots x rest hx k => lv_iload C.1 C.2.1 hd hx k) k
  | lload_n j => exact pLdL_k h (fun H locs ls cells slots x rest hx k => lv_lload_n C.1 C.2.1 hd rfl hx k) k
  | lload j => exact pLdL_k h (fun H locs ls cells slots x rest hx k => lv_lload C.1 C.2.1 hd hx k) k
  | aload_n j => exact pLdA_k h (fun H locs ls cells slots x rest hx k => lv_aload_n C.1 C.2.1 hd rfl hx k) (fun H locs ls cells slots rest hx k => lv_aload_nN C.1 C.2.1 hd rfl hx k) k
  | aload j => exact pLdA_k h (fun H locs ls cells slots x rest hx k => lv_aload C.1 C.2.1 hd hx k) (fun H locs ls cells slots rest hx k => lv_aloadN C.1 C.2.1 hd hx k) k
  | dload_n j => exact pLdD_k h (fun H locs ls cells slots x rest hx k => lv_dload_n C.1 C.2.1 hd rfl hx k) k
  | istore_n j => exact pSt1_k h (fun H locs ls cells slots x rest lv9 hl he kk => lv_istore_n C.1 C.2.1 hd rfl hl (pBle hdat) he kk) k
  | istore j => exact pSt1_k h (fun H locs ls cells slots x rest lv9 hl he kk => lv_istore C.1 C.2.1 hd hl (pBle hdat) he kk) k
  | lstore_n j => exact pStL_k h (fun H locs ls cells slots x rest lv9 hl he kk => lv_lstore_n C.1 C.2.1 hd rfl hl (pBle hdat) he kk) k
  | lstore j => exact pStL_k h (fun H locs ls cells slots x rest lv9 hl he kk => lv_lstore C.1 C.2.1 hd hl (pBle hdat) he kk) k
  | astore_n j => exact pStA_k h (fun H locs ls cells slots x rest lv9 hl he kk => lv_astore_n C.1 C.2.1 hd rfl hl (pBle hdat) he kk) (fun H locs ls cells slots rest lv9 hl he kk => lv_astore_nN C.1 C.2.1 hd rfl hl (pBle hdat) he kk) k
  | astore j => exact pStA_k h (fun H locs ls cells slots x rest lv9 hl he kk => lv_astore C.1 C.2.1 hd hl (pBle hdat) he kk) (fun H locs ls cells slots rest lv9 hl he kk => lv_astoreN C.1 C.2.1 hd hl (pBle hdat) he kk) k
  | aconst_null => exact pC_k h rfl (fun H locs ls cells slots rest k => lv_null C.1 C.2.1 hd k) k
  | ior => exact pII_k h (fun _ _ => rfl) (fun H locs ls cells slots x y rest k => lv_ior C.1 C.2.1 hd k) k
  | ishl => exact pII_k h (fun _ _ => rfl) (fun H locs ls cells slots x y rest k => lv_ishl C.1 C.2.1 hd k) k
  | ishr => exact pII_k h (fun _ _ => rfl) (fun H locs ls cells slots x y rest k => lv_ishr C.1 C.2.1 hd k) k
  | iushr => exact pII_k h (fun _ _ => rfl) (fun H locs ls cells slots x y rest k => lv_iushr C.1 C.2.1 hd rfl k) k
  | dstore_n j => exact pStD_k h (fun H locs ls cells slots x rest lv9 hl he kk => lv_dstore_n C.1 C.2.1 hd rfl hl (pBle hdat) he kk) k
  | iinc j n => exact pInc_k C h hd (pBle hdat) k
  | iadd => exact pII_k h (fun _ _ => rfl) (fun H locs ls cells slots x y rest k => lv_iadd C.1 C.2.1 hd k) k
  | isub => exact pII_k h (fun _ _ => rfl) (fun H locs ls cells slots x y rest k => lv_isub C.1 C.2.1 hd k) k
  | imul => exact pII_k h (fun _ _ => rfl) (fun H locs ls cells slots x y rest k => lv_imul C.1 C.2.1 hd k) k
  | iand => exact pII_k h (fun _ _ => rfl) (fun H locs ls cells slots x y rest k => lv_iand C.1 C.2.1 hd k) k
  | ixor => exact pII_k h (fun _ _ => rfl) (fun H locs ls cells slots x y rest k => lv_ixor C.1 C.2.1 hd k) k
  | ladd => exact pLL_k h (fun _ _ => rfl) (fun H locs ls cells slots x y rest k => lv_ladd C.1 C.2.1 hd k) k
  | lsub => exact pLL_k h (fun _ _ => rfl) (fun H locs ls cells slots x y rest k => lv_lsub C.1 C.2.1 hd k) k
  | lmul => exact pLL_k h (fun _ _ => rfl) (fun H locs ls cells slots x y rest k => lv_lmul C.1 C.2.1 hd k) k
  | land => exact pLL_k h (fun _ _ => rfl) (fun H locs ls cells slots x y rest k => lv_land C.1 C.2.1 hd k) k
  | lor => exact pLL_k h (fun _ _ => rfl) (fun H locs ls cells slots x y rest k => lv_lor C.1 C.2.1 hd k) k
  | lxor => exact pLL_k h (fun _ _ => rfl) (fun H locs ls cells slots x y rest k => lv_lxor C.1 C.2.1 hd k) k
  | lcmp => exact pLL_k h (fun _ _ => rfl) (fun H locs ls cells slots x y rest k => W.lcmp C.1 C.2.1 hd k) k
  | idiv => exact pDiv_k h (fun H locs ls cells slots x y rest hy k => lv_idiv C.1 C.2.1 hd hy k) k
  | irem => exact pDiv_k h (fun H locs ls cells slots x y rest hy k => lv_irem C.1 C.2.1 hd hy k) k
  | ldiv => exact pDivL_k h (fun H locs ls cells slots x y rest hy k => lv_ldiv C.1 C.2.1 hd hy k) k
  | ddiv => exact pDivD_k h (fun H locs ls cells slots x y rest hy k => lv_ddiv C.1 C.2.1 hd hy k) k
  | dmul => exact pDivD_k h (fun H locs ls cells slots x y rest hy k => lv_dmul C.1 C.2.1 hd hy k) k
  | ineg => exact pI1_k h (fun _ => rfl) (fun H locs ls cells slots x rest k => lv_ineg C.1 C.2.1 hd k) k
  | lneg => exact pL1_k h (fun _ => rfl) (fun H locs ls cells slots x rest k => lv_lneg C.1 C.2.1 hd k) k
  | i2l => exact pI1_k h (fun _ => rfl) (fun H locs ls cells slots x rest k => lv_i2l C.1 C.2.1 hd rfl k) k
  | l2i => exact pL1_k h (fun _ => rfl) (fun H locs ls cells slots x rest k => lv_l2i C.1 C.2.1 hd rfl k) k
  | i2d => exact pI1_k h (fun _ => rfl) (fun H locs ls cells slots x rest k => lv_i2d C.1 C.2.1 hd k) k
  | l2d => exact pL1_k h (fun _ => rfl) (fun H locs ls cells slots x rest k => lv_l2d C.1 C.2.1 hd k) k
  | d2l => exact pD1_k h (fun _ => rfl) (fun H locs ls cells slots x rest k => lv_d2l C.1 C.2.1 hd k) k
  | lushr => exact pLI_k h (fun _ _ => rfl) (fun H locs ls cells slots x y rest k => lv_lushr C.1 C.2.1 hd rfl k) k
  | lshl => exact pLI_k h (fun _ _ => rfl) (fun H locs ls cells slots x y rest k => lv_lshl C.1 C.2.1 hd rfl k) k
  | dcmp op => exact pDD_k h (fun _ _ => rfl) (fun H locs ls cells slots x y rest k => lv_dcmp C.1 C.2.1 hd k) k
  | dup => exact pDup_k C h hd k
  | pop => exact pPop_k C h hd k
  | dup2 => exact pDup2_k C h hd k
  | ifCond kc off =>
    cases kc with
    | eq => exact pIf_k (G := fun x => x = 0) h (fun x => decide_eq_true_iff) (fun H locs ls cells slots x rest t ht kt kf => by subst ht; exact lv_if_eq C.1 C.2.1 hd (of_decide_eq_true hdat) kt kf) k
    | ne => exact pIf_k (G := fun x => ¬ x = 0) h (fun x => decide_eq_true_iff) (fun H locs ls cells slots x rest t ht kt kf => by subst ht; exact lv_if_ne C.1 C.2.1 hd (of_decide_eq_true hdat) kt (fun e => kf (fun z => z e))) k
    | lt => exact pIf_k (G := fun x => x < 0) h (fun x => decide_eq_true_iff) (fun H locs ls cells slots x rest t ht kt kf => by subst ht; exact lv_if_lt C.1 C.2.1 hd (of_decide_eq_true hdat) kt kf) k
    | ge => exact pIf_k (G := fun x => 0 ≤ x) h (fun x => decide_eq_true_iff) (fun H locs ls cells slots x rest t ht kt kf => by subst ht; exact lv_if_ge C.1 C.2.1 hd (of_decide_eq_true hdat) kt kf) k
    | gt => exact pIf_k (G := fun x => 0 < x) h (fun x => decide_eq_true_iff) (fun H locs ls cells slots x rest t ht kt kf => by subst ht; exact lv_if_gt C.1 C.2.1 hd (of_decide_eq_true hdat) kt kf) k
    | le => exact pIf_k (G := fun x => x ≤ 0) h (fun x => decide_eq_true_iff) (fun H locs ls cells slots x rest t ht kt kf => by subst ht; exact lv_if_le C.1 C.2.1 hd (of_decide_eq_true hdat) kt kf) k
  | if_icmp kc off =>
    cases kc with
    | eq => exact pIf2_k (G := fun x y => x = y) h (fun x y => decide_eq_true_iff) (fun H locs ls cells slots x y rest t ht kt kf => by subst ht; exact lv_icmp_eq C.1 C.2.1 hd (of_decide_eq_true hdat) kt kf) k
    | ne => exact pIf2_k (G := fun x y => ¬ x = y) h (fun x y => decide_eq_true_iff) (fun H locs ls cells slots x y rest t ht kt kf => by subst ht; exact lv_icmp_ne C.1 C.2.1 hd (of_decide_eq_true hdat) kt (fun e => kf (fun z => z e))) k
    | lt => exact pIf2_k (G := fun x y => x < y) h (fun x y => decide_eq_true_iff) (fun H locs ls cells slots x y rest t ht kt kf => by subst ht; exact lv_icmp_lt C.1 C.2.1 hd (of_decide_eq_true hdat) kt kf) k
    | ge => exact pIf2_k (G := fun x y => y ≤ x) h (fun x y => decide_eq_true_iff) (fun H locs ls cells slots x y rest t ht kt kf => by subst ht; exact lv_icmp_ge C.1 C.2.1 hd (of_decide_eq_true hdat) kt kf) k
    | gt => exact pIf2_k (G := fun x y => y < x) h (fun x y => decide_eq_true_iff) (fun H locs ls cells slots x y rest t ht kt kf => by subst ht; exact lv_icmp_gt C.1 C.2.1 hd (of_decide_eq_true hdat) kt kf) k
    | le => exact pIf2_k (G := fun x y => x ≤ y) h (fun x y => decide_eq_true_iff) (fun H locs ls cells slots x y rest t ht kt kf => by subst ht; exact lv_icmp_le C.1 C.2.1 hd (of_decide_eq_true hdat) kt kf) k
  | goto off => exact pGoto_k C h hd hdat k
  | ifnull off => exact pIfN_k C h (Or.inl ⟨rfl, hd⟩) (fun t ht => by subst ht; exact of_decide_eq_true hdat) k
  | ifnonnull off => exact pIfN_k C h (Or.inr ⟨rfl, hd⟩) (fun t ht => by subst ht; exact of_decide_eq_true hdat) k
  | aaload => exact pALdA_k C h hd k
  | aastore => exact pAStA_k C h hd k
  | anewarray idx => exact pANew_k C h hd hdat hn hz hc1 hc2 k
  | multianewarray idx n => exact pMNew_k C h hd hdat hn hz hc1 hc2 k
  | checkcast idx => exact pCast_k C h hd hdat k
  | areturn => exact (pAret_no h).elim
  | tableswitch d lo hi offs => exact pTab_k C h hd hdat k
  | ldc idx => exact pLdc_k C h hd hdat k
  | ldc_w idx => exact pLdcw_k C h hd hdat k
  | ldc2_w idx => exact pLdc2_k C h hd hdat k
  | getfield idx => exact pGetF_k C h hd hdat k
  | putfield idx => exact pPutF_k C h hd hdat k
  | iaload => exact pALd_k h (by decide) (fun H locs ls cells slots a n f x rest hP ha hin k => va_iald C.1 C.2.1 C.2.2.2.2.2.2.2.1 hP (a - 1) 0 ha rfl hin hd k) (fun _ H locs ls cells slots n f x rest hX hbl hS hin k => va_sld C.1 C.2.1 hX hbl pScr_no hS hin hd k) k
  | baload => exact pALd_k h (by decide) (fun H locs ls cells slots a n f x rest hP ha hin k => va_zald C.1 C.2.1 C.2.2.2.2.2.2.2.1 hP (a - 1) 2 ha rfl hin hd k) (fun z => absurd z (by decide)) k
  | laload => exact pALdL_k C h hd k
  | iastore => exact pASt_k C h hd k
  | bastore => exact pAStZ_k C h hd k
  | lastore => exact pAStL_k C h hd k
  | arraylength => exact pALen_k C h hd k
  | newarray t => exact pNewA_k C h hd hdat hn hz hc1 hc2 k
  | new idx => exact pNewO_k C h hd hdat hn hz hc1 hc2 k
  | invokevirtual idx => exact pInvV_k C h hd hdat hn hz hc1 hc2 k
  | invokespecial idx => exact pInvI_k C h hd hdat k
  | invokestatic idx => exact pInvS_k C h hd hdat k
  | ireturn => exact (pIret_no h).elim
  | lreturn => exact (pLret_no h).elim
  | return_ => exact (pVret_no h).elim
  | _ => exact (by have h2 : (none : Option pOut) = some (.inl q) := h; cases h2)
end PST4
