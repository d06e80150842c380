/-! ONE INSTRUCTION OF THE PLAIN MACHINE IS ONE OF THE MACHINE: arrays, what is made, natives. -/
section PST3
variable {p : Program} {l : Launch} {e : Env} {R : Room} {s : State} {m : MethodId} {args : Array Value} {below : List Frame} {meth : Method} {c : Code} {D : va_G} {b : pBas} {n0 z0 i : Nat} {cA : Nat → ClassId} {Q : State → Prop}
variable {pc : Nat} {dt : List Nat} {lv : pLv} {st : List Value} {w : pW} {q : pSt}
theorem pCond9 {α : Type} {c9 : Bool} {x y z : α} (h : (bif c9 then x else y) = z) : (c9 = true ∧ x = z) ∨ (c9 = false ∧ y = z) := by
  cases c9 with
  | true => exact Or.inl ⟨rfl, h⟩
  | false => exact Or.inr ⟨rfl, h⟩
theorem pALd_k {pc' kd : Nat} (h : pALd pc' kd lv st w = some (.inl q)) (hkd : kd ≤ 5)
    (row : ∀ (H : Heap) (locs : List Loc) (ls : Array Slot) (cells slots : Nat) (a n : Nat) (f : Nat → Int32) (x : Int32) (rest : List Value), va_P D vwCl (pwv b cA w) H → (pwv b cA w)[a - 1]? = some (pAdr b a, .inl (cA kd, n, .inl f)) → vp_in x n → W p l e R s m args below meth c H locs cells slots Q (F0 m pc' ls (.int (f x.toNatClampNeg) :: rest)) → W p l e R s m args below meth c H locs cells slots Q (F0 m pc ls (.int x :: .ref (pAdr b a) :: rest)))
    (row6 : kd = 0 → ∀ (H : Heap) (locs : List Loc) (ls : Array Slot) (cells slots : Nat) (n : Nat) (f : Nat → Int32) (x : Int32) (rest : List Value), va_X b.1.2 n f s s.heap → b.1.2 < s.heap.size → va_S (pAdS b) s.heap H locs → vp_in x n → W p l e R s m args below meth c H locs cells slots Q (F0 m pc' ls (.int (f x.toNatClampNeg) :: rest)) → W p l e R s m args below meth c H locs cells slots Q (F0 m pc ls (.int x :: .ref b.1.2 :: rest)))
    (k : pK p l e R s m args below meth c D b n0 z0 i cA Q q) : pK p l e R s m args below meth c D b n0 z0 i cA Q (pc, lv, st, w) := by
  intro H locs ls hA hl
  unfold pALd pGo1 at h
  split at h
  · rename_i x a st'
    split at h
    · rename_i k9 n f hw
      rcases pCond9 h with ⟨hc, h⟩ | ⟨_, h⟩
      · cases h
        rw [Bool.and_eq_true, Bool.or_eq_true] at hc
        rcases hc.1 with hk | hk
        · have hk := pBeq hk
          subst hk
          have h6 : pK6 (.inl (k9, n, .inl f)) = false := by
            rcases (show k9 = 0 ∨ k9 = 1 ∨ k9 = 2 ∨ k9 = 3 ∨ k9 = 4 ∨ k9 = 5 by omega) with z | z | z | z | z | z <;> subst z <;> rfl
          exact row H locs ls _ _ a n f x _ hA.1.1 (pwv_at hw (pPos hA hw h6)) (pInB_in hc.2) (k H locs ls hA hl)
        · rw [Bool.and_eq_true, Bool.and_eq_true] at hk
          have e0 := pBeq hk.1.1
          have e6 := pBeq hk.1.2
          have ea := pBeq hk.2
          subst ea
          subst e6
          obtain ⟨n1, f1, e, x1⟩ := hA.1.2
          rw [hw] at e
          cases e
          exact row6 e0 H locs ls _ _ n f x _ x1 (by
            obtain ⟨scr, g1, -⟩ := x1
            exact (Array.getElem?_eq_some_iff.mp g1).1) hA.2 (pInB_in hc.2) (k H locs ls hA hl)
      · cases h
    · cases h
  · cases h
theorem pALdL_k (C : pCtx p R s m args meth c D b n0 i cA) (h : pALdL (pc + 1) lv st w = some (.inl q)) (hd : decode (pB i) pc = .ok (.laload, 1))
    (k : pK p l e R s m args below meth c D b n0 z0 i cA Q q) : pK p l e R s m args below meth c D b n0 z0 i cA Q (pc, lv, st, w) := by
  intro H locs ls hA hl
  obtain ⟨hx, hb, hml, hr, hown, hts, hN, hK, hlk, hnm, hsz, hRf, hRl⟩ := C
  unfold pALdL pGo1 at h
  split at h
  · rename_i x a st'
    split at h
    · rename_i k9 n f hw
      by_cases hc : (Nat.beq k9 1 && pInB x n) = true
      · rw [hc] at h
        cases h
        rw [Bool.and_eq_true] at hc
        have hk := pBeq hc.1
        subst hk
        exact va_lald hx hb hK hA.1.1 (a - 1) 1 (pwv_at hw (pPos hA hw rfl)) rfl (pInB_in hc.2) hd (k H locs ls hA hl)
      · simp only [Bool.not_eq_true] at hc
        rw [hc] at h
        cases h
    · cases h
  · cases h
/-- behind a store into place a -/
theorem pK_set {pc' a : Nat} {c0 c1 : pCell} {H H9 : Heap} {locs locs9 : List Loc} {ls : Array Slot} {st' : List Value} (hw : w[a]? = some c0) (hs : pcsz c1 = pcsz c0) (k : pK p l e R s m args below meth c D b n0 z0 i cA Q (pc', lv, st', w.set a c1)) (hl : lv_has ls (pX i) (pw2 b lv))
    (hP : va_P D vwCl ((pwv b cA w).set (a - 1) (pAdr b a, pcel b cA c1)) H) (hS : va_S (pAdS b) s.heap H locs) (hA : pAt s D b cA w H9 locs9) (h6 : pK6 c0 = false) : W p l e R s m args below meth c H locs (w.length - n0) (pwsz w - z0) Q (F0 m pc' ls (st'.map (pv b))) := by
  have h1a := pPos hA hw h6
  rw [pwv_set _ _ _ _ _ h1a] at hP
  have := k H locs ls ⟨⟨hP, pScr_set hA.1.2 h1a⟩, hS⟩ hl
  simp only [List.length_set] at this
  rw [pwsz_set hw hs] at this
  exact this
theorem pASt_k (C : pCtx p R s m args meth c D b n0 i cA) (h : pASt (pc + 1) lv st w = some (.inl q)) (hd : decode (pB i) pc = .ok (.iastore, 1))
    (k : pK p l e R s m args below meth c D b n0 z0 i cA Q q) : pK p l e R s m args below meth c D b n0 z0 i cA Q (pc, lv, st, w) := by
  intro H locs ls hA hl
  obtain ⟨hx, hb, hml, hr, hown, hts, hN, hK, hlk, hnm, hsz, hRf, hRl⟩ := C
  unfold pASt pGo1 at h
  split at h
  · rename_i y x a st'
    split at h
    · rename_i k9 n f hw
      by_cases hc : (Nat.beq k9 0 && pInB x n) = true
      · rw [hc] at h
        cases h
        rw [Bool.and_eq_true] at hc
        have hk := pBeq hc.1
        subst hk
        exact va_iast hx hb hK hA.1.1 (pwv_D b cA w) hA.2 (a - 1) 0 (pwv_at hw (pPos hA hw rfl)) rfl (pInB_in hc.2) hd (fun H1 locs1 hP _ hS => pK_set (c1 := .inl (0, n, .inl (upd f x.toNatClampNeg y))) hw rfl k hl hP hS hA rfl)
      · simp only [Bool.not_eq_true] at hc
        rw [hc] at h
        cases h
    · cases h
  · cases h
theorem pAStZ_k (C : pCtx p R s m args meth c D b n0 i cA) (h : pAStZ (pc + 1) lv st w = some (.inl q)) (hd : decode (pB i) pc = .ok (.bastore, 1))
    (k : pK p l e R s m args below meth c D b n0 z0 i cA Q q) : pK p l e R s m args below meth c D b n0 z0 i cA Q (pc, lv, st, w) := by
  intro H locs ls hA hl
  obtain ⟨hx, hb, hml, hr, hown, hts, hN, hK, hlk, hnm, hsz, hRf, hRl⟩ := C
  unfold pAStZ pGo1 at h
  split at h
  · rename_i y x a st'
    split at h
    · rename_i k9 n f hw
      by_cases hc : (Nat.beq k9 2 && pInB x n) = true
      · rw [hc] at h
        cases h
        rw [Bool.and_eq_true] at hc
        have hk := pBeq hc.1
        subst hk
        exact va_zast hx hb hK hA.1.1 (pwv_D b cA w) hA.2 (a - 1) 2 (pwv_at hw (pPos hA hw rfl)) rfl (pInB_in hc.2) hd (fun H1 locs1 hP _ hS => pK_set (c1 := .inl (2, n, .inl (upd f x.toNatClampNeg (vp_nar .boolean y)))) hw rfl k hl hP hS hA rfl)
      · simp only [Bool.not_eq_true] at hc
        rw [hc] at h
        cases h
    · cases h
  · cases h
theorem pAStL_k (C : pCtx p R s m args meth c D b n0 i cA) (h : pAStL (pc + 1) lv st w = some (.inl q)) (hd : decode (pB i) pc = .ok (.lastore, 1))
    (k : pK p l e R s m args below meth c D b n0 z0 i cA Q q) : pK p l e R s m args below meth c D b n0 z0 i cA Q (pc, lv, st, w) := by
  intro H locs ls hA hl
  obtain ⟨hx, hb, hml, hr, hown, hts, hN, hK, hlk, hnm, hsz, hRf, hRl⟩ := C
  unfold pAStL pGo1 at h
  split at h
  · rename_i y x a st'
    split at h
    · rename_i k9 n f hw
      by_cases hc : (Nat.beq k9 1 && pInB x n) = true
      · rw [hc] at h
        cases h
        rw [Bool.and_eq_true] at hc
        have hk := pBeq hc.1
        subst hk
        exact va_last hx hb hK hA.1.1 (pwv_D b cA w) hA.2 (a - 1) 1 (pwv_at hw (pPos hA hw rfl)) rfl (pInB_in hc.2) hd (fun H1 locs1 hP _ hS => pK_set (c1 := .inl (1, n, .inr (.inl (vp_updL f x.toNatClampNeg y)))) hw rfl k hl hP hS hA rfl)
      · simp only [Bool.not_eq_true] at hc
        rw [hc] at h
        cases h
    · cases h
  · cases h
theorem pALen_k (C : pCtx p R s m args meth c D b n0 i cA) (h : pALen (pc + 1) lv st w = some (.inl q)) (hd : decode (pB i) pc = .ok (.arraylength, 1))
    (k : pK p l e R s m args below meth c D b n0 z0 i cA Q q) : pK p l e R s m args below meth c D b n0 z0 i cA Q (pc, lv, st, w) := by
  intro H locs ls hA hl
  obtain ⟨hx, hb, hml, hr, hown, hts, hN, hK, hlk, hnm, hsz, hRf, hRl⟩ := C
  unfold pALen pGo1 at h
  split at h
  · rename_i a st'
    split at h
    · rename_i k9 x hw
      rcases pCond9 h with ⟨hc, h⟩ | ⟨_, h⟩
      · cases h
        rw [Bool.or_eq_true] at hc
        rcases hc with hc | hc
        rotate_left
        · rw [Bool.and_eq_true] at hc
          have e6 := pBeq hc.1
          have ea := pBeq hc.2
          subst ea
          subst e6
          obtain ⟨n1, f1, e, x1⟩ := hA.1.2
          rw [hw] at e
          cases e
          exact va_slen hx hb x1 (by
            obtain ⟨scr, g1, -⟩ := x1
            exact (Array.getElem?_eq_some_iff.mp g1).1) pScr_no hA.2 hd (k H locs ls hA hl)
        have hk : k9 ≤ 5 := pBle hc
        have hsz1 := pA_sz b x
        rw [← hsz1] at k
        rcases (show k9 = 0 ∨ k9 = 1 ∨ k9 = 2 ∨ k9 = 3 ∨ k9 = 4 ∨ k9 = 5 by omega) with z | z | z | z | z | z
        · subst z; exact va_alen hx hb hK hA.1.1 (a - 1) 0 (pwv_at hw (pPos hA hw rfl)) (ty := .int) rfl rfl hd (k H locs ls hA hl)
        · subst z; exact va_alen hx hb hK hA.1.1 (a - 1) 1 (pwv_at hw (pPos hA hw rfl)) (ty := .long) rfl rfl hd (k H locs ls hA hl)
        · subst z; exact va_alen hx hb hK hA.1.1 (a - 1) 2 (pwv_at hw (pPos hA hw rfl)) (ty := .boolean) rfl rfl hd (k H locs ls hA hl)
        · subst z; exact va_alen hx hb hK hA.1.1 (a - 1) 3 (pwv_at hw (pPos hA hw rfl)) (ty := .array .int) rfl rfl hd (k H locs ls hA hl)
        · subst z; exact va_alen hx hb hK hA.1.1 (a - 1) 4 (pwv_at hw (pPos hA hw rfl)) (ty := .array .long) rfl rfl hd (k H locs ls hA hl)
        · subst z; exact va_alen hx hb hK hA.1.1 (a - 1) 5 (pwv_at hw (pPos hA hw rfl)) (ty := .object "SquareMeshLaw$Sheet") rfl rfl hd (k H locs ls hA hl)
      · cases h
    · cases h
  · cases h
/-- behind the making of a cell: it lies where the plain machine has it -/
theorem pK_app {pc' a : Nat} {c1 : pCell} {H : Heap} {locs : List Loc} {ls : Array Slot} {st' : List Value} (hs : pSiz b n0 s.heap.size) (hn : n0 ≤ w.length) (hz : z0 ≤ pwsz w) (k : pK p l e R s m args below meth c D b n0 z0 i cA Q (pc', lv, .ref w.length :: st', w ++ [c1])) (hl : lv_has ls (pX i) (pw2 b lv))
    (hP : va_P D vwCl (pwv b cA w ++ [(a, pcel b cA c1)]) H) (hD : va_D (pAdS b) (pwv b cA w ++ [(a, pcel b cA c1)])) (hS : va_S (pAdS b) s.heap H locs) {H9 : Heap} {locs9 : List Loc} (hA : pAt s D b cA w H9 locs9) : W p l e R s m args below meth c H locs (w.length - n0 + 1) (pwsz w - z0 + pcsz c1) Q (F0 m pc' ls (.ref a :: st'.map (pv b))) := by
  refine W_sz fun hu => ?_
  obtain ⟨hs1, hs2⟩ := hs
  have hw1 : 1 ≤ w.length := by omega
  have hlast : (pwv b cA w ++ [(a, pcel b cA c1)])[w.length - 1]? = some (a, pcel b cA c1) := by
    rw [List.getElem?_append_right (by rw [pwv_len]; exact Nat.le_refl _), pwv_len, Nat.sub_self]
    rfl
  have h1 : a < H.size := (hP _ _ hlast).lt
  have h2 : b.1.1 + 1 ≤ a := hD.2 _ _ hlast
  have ha : a = pAdr b w.length := by
    rw [pAdr_pos b hw1]
    rcases Nat.lt_or_ge a (b.1.1 + w.length) with z | z
    · exfalso
      have hj : a - b.1.1 < w.length := by omega
      have h3 : (pwv b cA w ++ [(a, pcel b cA c1)])[a - b.1.1 - 1]? = some (pAdr b (a - b.1.1), pcel b cA w[a - b.1.1]) := by
        rw [List.getElem?_append_left (by rw [pwv_len]; omega)]
        exact pwv_at (List.getElem?_eq_getElem hj) (by omega)
      have := hD.1 _ _ _ _ h3 hlast (by show pAdr b (a - b.1.1) = a; rw [pAdr_pos b (by omega)]; omega)
      omega
    · omega
  subst ha
  rw [← pwv_app _ _ _ _ hw1] at hP
  have := k H locs ls ⟨⟨hP, pScr_app hA.1.2⟩, hS⟩ hl
  simp only [List.length_append, List.length_singleton, pwsz_app] at this
  have e1 : w.length + 1 - n0 = w.length - n0 + 1 := by omega
  have e2 : pwsz w + pcsz c1 - z0 = pwsz w - z0 + pcsz c1 := by omega
  rw [e1, e2] at this
  exact this
theorem pNewA_one {t : ArrayType} {kd : Nat} {ty : FieldType} (hx : p.tables.exec = Jvm.exec) (hb : c.code = pB i) (hts : ∀ w ∈ pG0, w.before args s = true) (hK : va_K D vwCl (pTys cA) s) (hsz : pSiz b n0 s.heap.size) (hty : newarray.typeOf t = ty) (hac : Cond.arrayClass ty ∈ pG0) (hkd : (pTys cA)[kd]? = some (cA kd, ty)) (hcb : componentBytes ty ≤ 8) (hra : ∀ (U : State) (A : ClassId), va_RA U A ty → U.vm.findClass ("[" ++ ty.toString) = some A)
    (hz0 : ∀ (N : Nat) (A : ClassId), vp_cell A (N, pZero kd) = arrV A N (fun _ => defaultValue ty))
    {x : Int32} {H : Heap} {locs : List Loc} {ls : Array Slot} {st' : List Value} (hA : pAt s D b cA w H locs) (hl : lv_has ls (pX i) (pw2 b lv)) (hn : n0 ≤ w.length) (hz : z0 ≤ pwsz w) (hxn : ¬ x < 0) (hxb : x.toNatClampNeg ≤ 60000000)
    (hc1 : w.length - n0 + 1 ≤ R.cells) (hc2 : pwsz w - z0 + x.toNatClampNeg ≤ R.slots) (hd : decode (pB i) pc = .ok (.newarray t, 2))
    (k : pK p l e R s m args below meth c D b n0 z0 i cA Q (pc + 2, lv, .ref w.length :: st', w ++ [.inl (kd, x.toNatClampNeg, pZero kd)])) : W p l e R s m args below meth c H locs (w.length - n0) (pwsz w - z0) Q (F0 m pc ls (.int x :: st'.map (pv b))) := by
  refine va_newa (a0 := (x.toNatClampNeg, pZero kd)) (ty := ty) hx hb (by rw [hty]; exact hts _ hac) hty hK hA.1.1 (pwv_D b cA w) hA.2 (pAdS_of hsz) (hz0 x.toNatClampNeg) hxn rfl (by have := Nat.mul_le_mul hxb hcb; omega) hc1 hc2 hd (fun a cA' H1 hK1 hP hD hS => ?_)
  have h1 := (hK1.2 (pTys cA).length (cA', ty) (by simp)).2
  have h2 := (hK.2 kd _ hkd).2
  have h3 : cA' = cA kd := Option.some.inj ((hra _ _ h1).symm.trans (hra _ _ h2))
  subst h3
  have e9 : pcel b cA (.inl (kd, x.toNatClampNeg, pZero kd)) = .inl (cA kd, x.toNatClampNeg, pZero kd) := by
    show Sum.inl (cA kd, pA b (x.toNatClampNeg, pZero kd)) = _
    unfold pZero
    cases Nat.beq kd 1 <;> rfl
  rw [← e9] at hP hD
  exact pK_app (c1 := .inl (kd, x.toNatClampNeg, pZero kd)) hsz hn hz k hl hP hD hS hA
theorem pNewA_k {t : ArrayType} (C : pCtx p R s m args meth c D b n0 i cA) (h : pNewA (pc + 2) dt lv st w = some (.inl q)) (hd : decode (pB i) pc = .ok (.newarray t, 2)) (hdat : pDat i pc (.newarray t) dt = true) (hn : n0 ≤ w.length) (hz : z0 ≤ pwsz w) (hc1 : q.2.2.2.length - n0 ≤ R.cells) (hc2 : pwsz q.2.2.2 - z0 ≤ R.slots)
    (k : pK p l e R s m args below meth c D b n0 z0 i cA Q q) : pK p l e R s m args below meth c D b n0 z0 i cA Q (pc, lv, st, w) := by
  intro H locs ls hA hl
  obtain ⟨hx, hb, hml, hr, hown, hts, hN, hK, hlk, hnm, hsz, hRf, hRl⟩ := C
  unfold pNewA pGo1 at h
  split at h
  · rename_i x st' k9
    by_cases hc : (!(decide (x < 0)) && Nat.ble x.toNatClampNeg 60000000) = true
    · rw [hc] at h
      cases h
      simp only [Bool.and_eq_true, Bool.not_eq_true', decide_eq_false_iff_not] at hc
      obtain ⟨hxn, hxb⟩ := hc
      have hxb := pBle hxb
      simp only [List.length_append, List.length_singleton, pwsz_app, pcsz] at hc1 hc2
      have hc1 : w.length - n0 + 1 ≤ R.cells := by omega
      have hc2 : pwsz w - z0 + x.toNatClampNeg ≤ R.slots := by omega
      simp only [pDat] at hdat
      split at hdat
      · exact pNewA_one (kd := 0) (ty := .int) hx hb hts hK hsz rfl pAc0 rfl (by decide) (fun _ _ h => h) (fun _ _ => rfl) hA hl hn hz hxn hxb hc1 hc2 hd k
      · exact pNewA_one (kd := 1) (ty := .long) hx hb hts hK hsz rfl pAc1 rfl (by decide) (fun _ _ h => h) (fun _ _ => rfl) hA hl hn hz hxn hxb hc1 hc2 hd k
      · exact pNewA_one (kd := 2) (ty := .boolean) hx hb hts hK hsz rfl pAc2 rfl (by decide) (fun _ _ h => h) (fun _ _ => rfl) hA hl hn hz hxn hxb hc1 hc2 hd k
      · cases hdat
    · simp only [Bool.not_eq_true] at hc
      rw [hc] at h
      cases h
  · cases h
theorem pv_default (ty : FieldType) : pv b (defaultValue ty) = defaultValue ty := by cases ty <;> rfl
theorem pNewO_k {idx : Nat} (C : pCtx p R s m args meth c D b n0 i cA) (h : pNewO (pc + 3) dt lv st w = some (.inl q)) (hd : decode (pB i) pc = .ok (.new idx, 3)) (hdat : pDat i pc (.new idx) dt = true) (hn : n0 ≤ w.length) (hz : z0 ≤ pwsz w) (hc1 : q.2.2.2.length - n0 ≤ R.cells) (hc2 : pwsz q.2.2.2 - z0 ≤ R.slots)
    (k : pK p l e R s m args below meth c D b n0 z0 i cA Q q) : pK p l e R s m args below meth c D b n0 z0 i cA Q (pc, lv, st, w) := by
  intro H locs ls hA hl
  obtain ⟨hx, hb, hml, hr, hown, hts, hN, hK, hlk, hnm, hsz, hRf, hRl⟩ := C
  unfold pNewO pGo1 at h
  split at h
  · rename_i ci n e9
    cases h
    simp only [pDat, Bool.and_eq_true] at hdat
    obtain ⟨hd1, hd2⟩ := hdat
    split at hd1
    · rename_i q9 hq9
      simp only [Bool.and_eq_true] at hd1
      obtain ⟨⟨h1, h2⟩, h3⟩ := hd1
      have hF := pNw_all q9 (List.mem_of_getElem? hq9)
      unfold pNwF at hF
      rw [pBeq h1, pBeq h2, pBeq h3] at hF
      obtain ⟨c9, hc9, hl1, hl2, hl3⟩ := hF
      rw [hc9] at hd2
      have hn9 : c9.2.2 = n := pBeq hd2
      obtain ⟨tyf, ht1, ht2, ht3⟩ := pTy_all ci c9 hc9
      simp only [List.length_append, List.length_singleton, pwsz_app, pcsz, List.length_map, List.length_range] at hc1 hc2
      have hc1 : w.length - n0 + 1 ≤ R.cells := by omega
      have hc2 : pwsz w - z0 + c9.2.2 ≤ R.slots := by omega
      have efs : ((List.range n).map (fun j => defaultValue (pTf ci j))).map (pv b) = (List.range n).map (fun j => defaultValue (pTf ci j)) := by
        rw [List.map_map]
        apply List.map_congr_left
        intro j _
        exact pv_default _
      refine va_new (D := D) (ci := ci) (fs := (List.range n).map (fun j => defaultValue (pTf ci j))) (C := c9.1) (T := c9.2.1) (N := c9.2.2) hx hb hts (pU_in i ci c9 hc9) tyf ht2 hown (hts _ (id hl1)) (hts _ (id hl2)) (hts _ (id hl3)) hK hA.1.1 (pwv_D b cA w) hA.2 (pAdS_of hsz) hc9 (fun j hj => ?_) hc1 hc2 hd (fun a H1 hP hD hS => ?_)
      · have htf : pTf ci j = tyf j := by
          unfold pTf
          rw [List.getD_eq_getElem?_getD, ht1]; rfl
        have hj2 : j < n := by omega
        unfold vp_V
        rw [List.getD_eq_getElem?_getD, List.getElem?_map, List.getElem?_range hj2]
        simp [htf]
      · rw [← efs] at hP hD
        have := pK_app (c1 := .inr (ci, (List.range n).map (fun j => defaultValue (pTf ci j)))) hsz hn hz k hl hP hD hS hA
        simp only [pcsz, List.length_map, List.length_range] at this
        rw [hn9]
        exact this
    · cases hd1
  · cases h
theorem pCa_use {idx e9 kd j n : Nat} {o : Nat} (h : (match pCaL[e9]? with
      | some q => Nat.beq q.1 o && Nat.beq q.2.1 idx && Nat.beq q.2.2.1 kd && Nat.beq q.2.2.2.1 j && Nat.beq q.2.2.2.2.1 n
      | none => false) = true) : ∃ q, pCaF q ∧ q.1 = o ∧ q.2.1 = idx ∧ q.2.2.1 = kd ∧ q.2.2.2.1 = j := by
  split at h
  · rename_i q hq
    simp only [Bool.and_eq_true] at h
    obtain ⟨⟨⟨⟨h1, h2⟩, h3⟩, h4⟩, h5⟩ := h
    exact ⟨q, pCa_all q (List.mem_of_getElem? hq), pBeq h1, pBeq h2, pBeq h3, pBeq h4⟩
  · cases h
theorem pOK8_inv {pc' : Nat} {o : pSt} (h : pOK8 pc' lv st w = some (.inl o)) : pCat st ≤ 8 ∧ o = (pc' + 3, lv, st, w) := by
  unfold pOK8 pGo1 at h
  by_cases hc : Nat.ble (pCat st) 8 = true
  · rw [hc] at h
    cases h
    exact ⟨pBle hc, rfl⟩
  · simp only [Bool.not_eq_true] at hc
    rw [hc] at h
    cases h
end PST3
