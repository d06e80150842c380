/-! ONE INSTRUCTION OF THE PLAIN MACHINE IS ONE OF THE MACHINE: rows of references, null, clones. -/
section PST5
variable {p : Program} {l : Launch} {e : Env} {R : Room} {s : State} {m : MethodId} {args : Array Value} {below : List Frame} {meth : Method} {c : Code} {D : va_G} {b : pBas} {n0 z0 i : Nat} {cA : Nat → ClassId} {Q : State → Prop}
variable {pc : Nat} {dt : List Nat} {lv : pLv} {st : List Value} {w : pW} {q : pSt}
theorem pCond' {α : Type} {c : Bool} {x y z : α} (h : (bif c then x else y) = z) : (c = true ∧ x = z) ∨ (c = false ∧ y = z) := by
  cases c with
  | true => exact Or.inl ⟨rfl, h⟩
  | false => exact Or.inr ⟨rfl, h⟩
theorem pALdA_k (C : pCtx p R s m args meth c D b n0 i cA) (h : pALdA (pc + 1) lv st w = some (.inl q)) (hd : decode (pB i) pc = .ok (.aaload, 1))
    (k : pK p l e R s m args below meth c D b n0 z0 i cA Q q) : pK p l e R s m args below meth c D b n0 z0 i cA Q (pc, lv, st, w) := by
  intro H locs ls hA hl
  obtain ⟨hx, hb, hml, hr, hown, hts, hN, hK, hlk, hnm, hsz, hRf, hRl⟩ := C
  unfold pALdA pGo1 at h
  split at h
  · rename_i x a st'
    split at h
    · rename_i k9 n f hw
      rcases pCond' h with ⟨hc, h⟩ | ⟨_, h⟩
      · cases h
        simp only [Bool.and_eq_true] at hc
        obtain ⟨⟨h3, h5⟩, hin⟩ := hc
        have h3 := pBle h3
        have h5 := pBle h5
        have hk := k H locs ls hA hl
        simp only [List.map_cons, ← pv_rf] at hk
        rcases (show k9 = 3 ∨ k9 = 4 ∨ k9 = 5 by omega) with z | z | z
        · subst z; exact pr_ald hx hb hK hA.1.1 (a - 1) 3 (ty := .array .int) (pwv_at hw (pPos hA hw rfl)) rfl rfl (pInB_in hin) hd hk
        · subst z; exact pr_ald hx hb hK hA.1.1 (a - 1) 4 (ty := .array .long) (pwv_at hw (pPos hA hw rfl)) rfl rfl (pInB_in hin) hd hk
        · subst z; exact pr_ald hx hb hK hA.1.1 (a - 1) 5 (ty := .object "SquareMeshLaw$Sheet") (pwv_at hw (pPos hA hw rfl)) rfl rfl (pInB_in hin) hd hk
      · cases h
    · cases h
  · cases h
theorem pComp {kd k0 : Nat} {t : FieldType} (hK : va_K D vwCl (pTys cA) s) (hN : ∀ x ∈ pN0, va_Nw x s) (ho : Cond.arrayOver (.array t) ∈ pN0) (hk : (pTys cA)[kd]? = some (cA kd, .array t)) (h0 : (pTys cA)[k0]? = some (cA k0, t)) (e1 : (FieldType.array t).toString = "[" ++ t.toString) (hra : ∀ (U : State) (A : ClassId), va_RA U A t → U.vm.findClass ("[" ++ t.toString) = some A) :
    ∀ (kA : Class) (comp : ClassId), s.vm.classes[cA kd]? = some kA → kA.kind = .array comp (.array t) → comp = cA k0 := by
  intro kA comp hkA hkind
  obtain ⟨comp2, c2, k2, f1, -, f3, f4, f5⟩ := arrayOverA_spec (hN _ ho)
  have g1 : s.vm.findClass ("[" ++ (FieldType.array t).toString) = some (cA kd) := (hK.2 kd _ hk).2
  have g2 := hra _ _ (hK.2 k0 _ h0).2
  have e2 : c2 = cA kd := Option.some.inj (f5.symm.trans g1)
  subst e2
  have e3 : k2 = kA := Option.some.inj (f3.symm.trans hkA)
  subst e3
  rw [hkind] at f4
  cases f4
  rw [e1] at f1
  exact Option.some.inj (f1.symm.trans g2)
theorem pHolds_inv {k9 : Nat} {o : Option pCell} (h : pHolds k9 o = true) : (k9 = 3 ∧ ∃ x, o = some (.inl (0, x))) ∨ (k9 = 4 ∧ ∃ x, o = some (.inl (1, x))) ∨ (k9 = 5 ∧ ∃ fs, o = some (.inr (9, fs))) := by
  unfold pHolds at h
  split at h
  · exact Or.inl ⟨rfl, _, rfl⟩
  · exact Or.inr (Or.inl ⟨rfl, _, rfl⟩)
  · exact Or.inr (Or.inr ⟨rfl, _, rfl⟩)
  · cases h
theorem pAStA_k (C : pCtx p R s m args meth c D b n0 i cA) (h : pAStA (pc + 1) lv st w = some (.inl q)) (hd : decode (pB i) pc = .ok (.aastore, 1))
    (k : pK p l e R s m args below meth c D b n0 z0 i cA Q q) : pK p l e R s m args below meth c D b n0 z0 i cA Q (pc, lv, st, w) := by
  intro H locs ls hA hl
  obtain ⟨hx, hb, hml, hr, hown, hts, hN, hK, hlk, hnm, hsz, hRf, hRl⟩ := C
  unfold pAStA pGo1 at h
  split at h
  · rename_i v x a st'
    split at h
    · rename_i k9 n f hw
      rcases pCond' h with ⟨hc, h⟩ | ⟨_, h⟩
      · cases h
        simp only [Bool.and_eq_true] at hc
        obtain ⟨hh, hin⟩ := hc
        rcases pHolds_inv hh with ⟨z, y, hv⟩ | ⟨z, y, hv⟩ | ⟨z, y, hv⟩
        · subst z
          exact pr_ast hx hb hK hA.1.1 (pwv_D b cA w) hA.2 (a - 1) 3 (v - 1) 0 (ty := .array .int) (tv := .int) (pwv_at hw (pPos hA hw rfl)) rfl rfl (pwv_at hv (pPos hA hv rfl)) rfl (pComp (kd := 3) (k0 := 0) hK hN pAo3 rfl rfl rfl (fun _ _ h => h)) (pInB_in hin) hd (fun H1 locs1 hP hS => pK_set (c1 := .inl (3, n, .inr (.inr (.inr (.inr (va_up f x.toNatClampNeg (some v))))))) hw rfl k hl (by show va_P D vwCl ((pwv b cA w).set (a - 1) (pAdr b a, .inl (cA 3, pA b (n, _)))) H1; rw [pA_up]; exact hP) hS hA rfl)
        · subst z
          exact pr_ast hx hb hK hA.1.1 (pwv_D b cA w) hA.2 (a - 1) 4 (v - 1) 1 (ty := .array .long) (tv := .long) (pwv_at hw (pPos hA hw rfl)) rfl rfl (pwv_at hv (pPos hA hv rfl)) rfl (pComp (kd := 4) (k0 := 1) hK hN pAo4 rfl rfl rfl (fun _ _ h => h)) (pInB_in hin) hd (fun H1 locs1 hP hS => pK_set (c1 := .inl (4, n, .inr (.inr (.inr (.inr (va_up f x.toNatClampNeg (some v))))))) hw rfl k hl (by show va_P D vwCl ((pwv b cA w).set (a - 1) (pAdr b a, .inl (cA 4, pA b (n, _)))) H1; rw [pA_up]; exact hP) hS hA rfl)
        · subst z
          exact va_astq (r := (RX9, TX9, 4)) hx hb hK hA.1.1 (pwv_D b cA w) hA.2 (a - 1) 5 (v - 1) 9 (pwv_at hw (pPos hA hw rfl)) rfl (pwv_at hv (pPos hA hv rfl)) rfl (pInB_in hin) hd (fun H1 locs1 hP _ hS => pK_set (c1 := .inl (5, n, .inr (.inr (.inr (.inr (va_up f x.toNatClampNeg (some v))))))) hw rfl k hl (by show va_P D vwCl ((pwv b cA w).set (a - 1) (pAdr b a, .inl (cA 5, pA b (n, _)))) H1; rw [pA_up]; exact hP) hS hA rfl)
      · cases h
    · cases h
  · rename_i x a st'
    split at h
    · rename_i k9 n f hw
      rcases pCond' h with ⟨hc, h⟩ | ⟨_, h⟩
      · cases h
        simp only [Bool.and_eq_true] at hc
        obtain ⟨⟨h3, h5⟩, hin⟩ := hc
        have h3 := pBle h3
        have h5 := pBle h5
        rcases (show k9 = 3 ∨ k9 = 4 ∨ k9 = 5 by omega) with z | z | z
        · subst z
          exact pr_astN hx hb hK hA.1.1 (pwv_D b cA w) hA.2 (a - 1) 3 (ty := .array .int) (pwv_at hw (pPos hA hw rfl)) rfl rfl (pInB_in hin) hd (fun H1 locs1 hP hS => pK_set (c1 := .inl (3, n, .inr (.inr (.inr (.inr (va_up f x.toNatClampNeg none)))))) hw rfl k hl (by show va_P D vwCl ((pwv b cA w).set (a - 1) (pAdr b a, .inl (cA 3, pA b (n, _)))) H1; rw [pA_up]; exact hP) hS hA rfl)
        · subst z
          exact pr_astN hx hb hK hA.1.1 (pwv_D b cA w) hA.2 (a - 1) 4 (ty := .array .long) (pwv_at hw (pPos hA hw rfl)) rfl rfl (pInB_in hin) hd (fun H1 locs1 hP hS => pK_set (c1 := .inl (4, n, .inr (.inr (.inr (.inr (va_up f x.toNatClampNeg none)))))) hw rfl k hl (by show va_P D vwCl ((pwv b cA w).set (a - 1) (pAdr b a, .inl (cA 4, pA b (n, _)))) H1; rw [pA_up]; exact hP) hS hA rfl)
        · subst z
          exact pr_astN hx hb hK hA.1.1 (pwv_D b cA w) hA.2 (a - 1) 5 (ty := .object "SquareMeshLaw$Sheet") (pwv_at hw (pPos hA hw rfl)) rfl rfl (pInB_in hin) hd (fun H1 locs1 hP hS => pK_set (c1 := .inl (5, n, .inr (.inr (.inr (.inr (va_up f x.toNatClampNeg none)))))) hw rfl k hl (by show va_P D vwCl ((pwv b cA w).set (a - 1) (pAdr b a, .inl (cA 5, pA b (n, _)))) H1; rw [pA_up]; exact hP) hS hA rfl)
      · cases h
    · cases h
  · cases h
theorem pCk_use {idx e9 o : Nat} {g : Nat → Bool} (h : (match pCkL[e9]? with
          | some q => Nat.beq q.1 o && Nat.beq q.2.1 idx && g q.2.2
          | none => false) = true) : ∃ nm, g nm = true ∧ Cond.classLink (pN o) idx (pCkN nm) ∈ pG0 := by
  split at h
  · rename_i q hq
    simp only [Bool.and_eq_true] at h
    have h9 := pCk_all q (List.mem_of_getElem? hq)
    unfold pCkF at h9
    rw [pBeq h.1.1, pBeq h.1.2] at h9
    exact ⟨q.2.2, h.2, h9⟩
  · cases h
theorem pANew_k {idx : Nat} (C : pCtx p R s m args meth c D b n0 i cA) (h : pANew (pc + 3) dt lv st w = some (.inl q)) (hd : decode (pB i) pc = .ok (.anewarray idx, 3)) (hdat : pDat i pc (.anewarray idx) dt = true) (hn : n0 ≤ w.length) (hz : z0 ≤ pwsz w) (hc1 : q.2.2.2.length - n0 ≤ R.cells) (hc2 : pwsz q.2.2.2 - z0 ≤ R.slots)
    (k : pK p l e R s m args below meth c D b n0 z0 i cA Q q) : pK p l e R s m args below meth c D b n0 z0 i cA Q (pc, lv, st, w) := by
  intro H locs ls hA hl
  obtain ⟨hx, hb, hml, hr, hown, hts, hN, hK, hlk, hnm, hsz, hRf, hRl⟩ := C
  unfold pANew pGo1 at h
  split at h
  · rename_i x st' k9 e9
    rcases pCond' h with ⟨hc, h⟩ | ⟨_, h⟩
    · cases h
      simp only [Bool.and_eq_true, Bool.not_eq_true', decide_eq_false_iff_not] at hc
      obtain ⟨hxn, hxb⟩ := hc
      have hxb := pBle hxb
      simp only [List.length_append, List.length_singleton, pwsz_app, pcsz] at hc1 hc2
      have hc1 : w.length - n0 + 1 ≤ R.cells := by omega
      have hc2 : pwsz w - z0 + x.toNatClampNeg ≤ R.slots := by omega
      simp only [pDat] at hdat
      split at hdat
      rotate_left
      · cases hdat
      rename_i q9 hq9
      simp only [Bool.and_eq_true] at hdat
      have hlnk := pCk_all q9 (List.mem_of_getElem? hq9)
      unfold pCkF at hlnk
      rw [pBeq hdat.1.1, pBeq hdat.1.2] at hlnk
      have hg := hdat.2
      generalize q9.2.2 = nm at hg hlnk
      split at hg
      · refine pr_newA hx hb (t := .int) hown (hts _ hlnk) (hN _ pAo3) hA.1.1 (pwv_D b cA w) hA.2 (pAdS_of hsz) hxn (by omega) hc1 hc2 hd (fun a cA' H1 hc' hP hD hS => ?_)
        have e3 : cA' = cA 3 := Option.some.inj (hc'.symm.trans (hK.2 3 _ rfl).2)
        subst e3
        exact pK_app (c1 := .inl (3, x.toNatClampNeg, pZeroA)) hsz hn hz k hl hP hD hS hA
      · refine pr_newA hx hb (t := .long) hown (hts _ hlnk) (hN _ pAo4) hA.1.1 (pwv_D b cA w) hA.2 (pAdS_of hsz) hxn (by omega) hc1 hc2 hd (fun a cA' H1 hc' hP hD hS => ?_)
        have e3 : cA' = cA 4 := Option.some.inj (hc'.symm.trans (hK.2 4 _ rfl).2)
        subst e3
        exact pK_app (c1 := .inl (4, x.toNatClampNeg, pZeroA)) hsz hn hz k hl hP hD hS hA
      · refine va_newq hx hb (C := "SquareMeshLaw$Sheet") hown (hts _ hlnk) (va_AO.of (hN _ pAo5)) hK hA.1.1 (pwv_D b cA w) hA.2 (pAdS_of hsz) hxn rfl (by omega) hc1 hc2 hd (fun a cA' H1 hK1 hP hD hS => ?_)
        obtain ⟨k1, c1, -, -, -, h4⟩ := (hK1.2 (pTys cA).length (cA', .object "SquareMeshLaw$Sheet") (by simp)).2
        obtain ⟨k2, c2, -, -, -, h5⟩ := (hK.2 5 _ rfl).2
        have e3 : cA' = cA 5 := Option.some.inj (h4.symm.trans h5)
        subst e3
        exact pK_app (c1 := .inl (5, x.toNatClampNeg, pZeroA)) hsz hn hz k hl hP hD hS hA
      · cases hg
    · cases h
  · cases h
theorem pwsz_rep (n y : Nat) (f : (Nat → Int32) ⊕ (Nat → Int64) ⊕ (Nat → UInt32) ⊕ (Nat → UInt64) ⊕ (Nat → Option Nat)) : pwsz (List.replicate n (.inl (0, y, f))) = n * y := by
  induction n with
  | zero => simp [pwsz]
  | succ n ih =>
    have : pwsz (List.replicate (n + 1) (.inl (0, y, f))) = y + pwsz (List.replicate n (.inl (0, y, f))) := by simp [pwsz, List.replicate_succ, pcsz]
    rw [this, ih, Nat.succ_mul]
    omega
theorem pwsz_apps (w1 w2 : pW) : pwsz (w1 ++ w2) = pwsz w1 + pwsz w2 := by
  unfold pwsz
  simp
theorem pRows_len (x y p0 : Nat) : (pRows x y p0).length = 1 + x := by
  unfold pRows
  simp
  omega
theorem pRows_sz (x y p0 : Nat) : pwsz (pRows x y p0) = x + x * y := by
  unfold pRows
  rw [← pwsz_rep x y (.inl (fun _ => 0))]
  simp [pwsz, pcsz]
theorem pRows_at {x y p0 k : Nat} {c0 : pCell} (h : (pRows x y p0)[k]? = some c0) : (k = 0 ∧ c0 = .inl (3, x, .inr (.inr (.inr (.inr (fun j => bif Nat.ble (j + 1) x then some (p0 + 1 + j) else none)))))) ∨ (∃ j, k = j + 1 ∧ j < x ∧ c0 = .inl (0, y, .inl (fun _ => 0))) := by
  unfold pRows at h
  cases k with
  | zero =>
    left
    simp only [List.getElem?_cons_zero, Option.some.injEq] at h
    exact ⟨rfl, h.symm⟩
  | succ k =>
    right
    simp only [List.getElem?_cons_succ, List.getElem?_replicate] at h
    split at h
    · rename_i hk
      cases h
      exact ⟨k, rfl, hk, rfl⟩
    · cases h
theorem pMNew_k {idx n9 : Nat} (C : pCtx p R s m args meth c D b n0 i cA) (h : pMNew (pc + 4) lv st w = some (.inl q)) (hd : decode (pB i) pc = .ok (.multianewarray idx n9, 4)) (hdat : pDat i pc (.multianewarray idx n9) dt = true) (hn : n0 ≤ w.length) (hz : z0 ≤ pwsz w) (hc1 : q.2.2.2.length - n0 ≤ R.cells) (hc2 : pwsz q.2.2.2 - z0 ≤ R.slots)
    (k : pK p l e R s m args below meth c D b n0 z0 i cA Q q) : pK p l e R s m args below meth c D b n0 z0 i cA Q (pc, lv, st, w) := by
  intro H locs ls hA hl
  refine W_sz fun hu => ?_
  obtain ⟨hx, hb, hml, hr, hown, hts, hN, hK, hlk, hnm, hsz, hRf, hRl⟩ := C
  have hH9 := pAt_sz hsz hA hn hu
  have hH : H.size = b.1.1 + w.length := hH9.1
  have hw1 : 1 ≤ w.length := hH9.2
  simp only [pDat] at hdat
  split at hdat
  · rename_i k9 e9
    obtain ⟨nm, hg, hlnk⟩ := pCk_use (g := fun q => Nat.beq q 2 && Nat.beq k9 3 && Nat.beq n9 2) (by
      split at hdat
      · rename_i q9 hq9
        rw [hq9]
        simp only [Bool.and_eq_true] at hdat ⊢
        exact ⟨⟨hdat.1.1.1.1, hdat.1.1.1.2⟩, ⟨hdat.1.1.2, hdat.1.2⟩, hdat.2⟩
      · cases hdat)
    simp only [Bool.and_eq_true] at hg
    have e1 := pBeq hg.1.1
    have e2 := pBeq hg.2
    subst e1
    subst e2
    unfold pMNew pGo1 at h
    split at h
    · rename_i y x st'
      rcases pCond' h with ⟨hc, h⟩ | ⟨_, h⟩
      · cases h
        simp only [Bool.and_eq_true, Bool.not_eq_true', decide_eq_false_iff_not, decide_eq_true_eq] at hc
        obtain ⟨⟨⟨hx0, hy0⟩, hxb⟩, hyb⟩ := hc
        have hxb := pBle hxb
        have hyb := pBle hyb
        have hxn : ¬ x < 0 := fun g => by
          have h1 := Int32.lt_iff_toInt_lt.mp hx0
          have h2 := Int32.lt_iff_toInt_lt.mp g
          omega
        simp only [List.length_append, pRows_len, pwsz_apps, pRows_sz] at hc1 hc2
        show W p l e R s m args below meth c H locs (w.length - n0) (pwsz w - z0) Q (F0 m pc ls (.int y :: .int x :: st'.map (pv b)))
        refine pr_multi hx hb hown (hts _ hlnk) (hN _ pAo3) (hts _ pAc0) hxn hy0 hxb hyb (by omega) (by omega) hd (fun cT cR H1 hT hR hs1 ho ht hrow => ?_)
        have e3 : cT = cA 3 := Option.some.inj (hT.symm.trans (hK.2 3 _ rfl).2)
        have e4 : cR = cA 0 := Option.some.inj (hR.symm.trans (hK.2 0 _ rfl).2)
        subst e3
        subst e4
        have hPn : va_P D vwCl (pwv b cA (w ++ pRows x.toNatClampNeg y.toNatClampNeg w.length)) H1 := by
          intro j q9 hq9
          rw [pwv_get] at hq9
          by_cases hj : j + 1 < w.length
          · rw [List.getElem?_append_left hj] at hq9
            have h9 : (pwv b cA w)[j]? = some q9 := by rw [pwv_get]; exact hq9
            exact (hA.1.1 j q9 h9).kept (ho q9.1 ((hA.1.1 j q9 h9).lt))
          · rw [List.getElem?_append_right (by omega)] at hq9
            cases h9 : (pRows x.toNatClampNeg y.toNatClampNeg w.length)[j + 1 - w.length]? with
            | none => rw [h9] at hq9; cases hq9
            | some c9 =>
              rw [h9] at hq9
              cases hq9
              rcases pRows_at h9 with ⟨g1, g2⟩ | ⟨j2, g1, g2, g3⟩
              · subst g2
                have e0 : j + 1 = w.length := by omega
                rw [e0, ← pAdr_pos b hw1]
                show H1[pAdr b w.length]? = some (vp_cell (cA 3) (x.toNatClampNeg, .inr (.inr (.inr (.inr (fun j => (bif Nat.ble (j + 1) x.toNatClampNeg then some (w.length + 1 + j) else none).map (fun k => pAdr b k)))))))
                rw [pAdr_pos b hw1, ← hH, ht, hH]
                rw [vp_cell_q]
                unfold mu_top
                congr 2
                funext j3
                by_cases hb3 : Nat.ble (j3 + 1) x.toNatClampNeg = true
                · rw [hb3]
                  show Value.ref (b.1.1 + w.length + 1 + j3) = Value.ref (pAdr b (w.length + 1 + j3))
                  exact congrArg Value.ref (show (b.1.1 + w.length + 1 + j3 : Nat) = pAdr b (w.length + 1 + j3) from by rw [pAdr_pos b (by omega)]; omega)
                · simp only [Bool.not_eq_true] at hb3
                  rw [hb3]
                  rfl
              · subst g3
                have e0 : j + 1 = w.length + 1 + j2 := by omega
                rw [e0, ← pAdr_pos b (show 1 ≤ w.length + 1 + j2 by omega)]
                show H1[pAdr b (w.length + 1 + j2)]? = some (vp_cell (cA 0) _)
                have h8 := hrow j2 g2
                rw [hH] at h8
                rw [pAdr_pos b (by omega), show b.1.1 + (w.length + 1 + j2) = b.1.1 + w.length + 1 + j2 by omega, h8]
                rfl
        have hSn : va_S (pAdS b) s.heap H1 (locs ++ (List.range x.toNatClampNeg).map fun j => ⟨H.size, j⟩) := ⟨Nat.le_trans hA.2.1 (by omega), fun y2 h1 h2 => (ho y2 (Nat.lt_of_lt_of_le h1 hA.2.1)).trans (hA.2.2.1 y2 h1 h2), fun l9 h9 => by
          rcases List.mem_append.mp h9 with h9 | h9
          · exact hA.2.2.2 l9 h9
          · obtain ⟨j9, -, rfl⟩ := List.mem_map.mp h9
            exact pAdS_of hsz _ hA.2.1⟩
        have hk := k H1 _ ls ⟨⟨hPn, pScr_app hA.1.2⟩, hSn⟩ hl
        simp only [List.length_append, pRows_len, pwsz_apps, pRows_sz] at hk
        have e5 : w.length + (1 + x.toNatClampNeg) - n0 = w.length - n0 + 1 + x.toNatClampNeg := by omega
        have e6 : pwsz w + (x.toNatClampNeg + x.toNatClampNeg * y.toNatClampNeg) - z0 = pwsz w - z0 + x.toNatClampNeg + x.toNatClampNeg * y.toNatClampNeg := by omega
        rw [e5, e6] at hk
        rw [hH, ← pAdr_pos b hw1]
        rw [hH, ← pAdr_pos b hw1] at hk
        exact hk
      · cases h
    · cases h
  · cases hdat
theorem pCast_k {idx : Nat} (C : pCtx p R s m args meth c D b n0 i cA) (h : pCast (pc + 3) lv st w = some (.inl q)) (hd : decode (pB i) pc = .ok (.checkcast idx, 3)) (hdat : pDat i pc (.checkcast idx) dt = true)
    (k : pK p l e R s m args below meth c D b n0 z0 i cA Q q) : pK p l e R s m args below meth c D b n0 z0 i cA Q (pc, lv, st, w) := by
  intro H locs ls hA hl
  obtain ⟨hx, hb, hml, hr, hown, hts, hN, hK, hlk, hnm, hsz, hRf, hRl⟩ := C
  simp only [pDat] at hdat
  split at hdat
  · rename_i k9 e9
    obtain ⟨nm, hg, hlnk⟩ := pCk_use (g := fun q => Nat.beq q 0 && Nat.beq k9 0) (by
      split at hdat
      · rename_i q9 hq9
        rw [hq9]
        simp only [Bool.and_eq_true] at hdat ⊢
        exact ⟨⟨hdat.1.1.1, hdat.1.1.2⟩, hdat.1.2, hdat.2⟩
      · cases hdat)
    simp only [Bool.and_eq_true] at hg
    have e1 := pBeq hg.1
    subst e1
    unfold pCast pGo1 at h
    split at h
    · rename_i a st'
      split at h
      · rename_i x hw
        cases h
        exact va_castA hx hb hown (hts _ hlnk) hA.1.1 (a - 1) (pwv_at hw (pPos hA hw rfl)) (va_nm_int (hK.2 0 _ rfl).2) hd (k H locs ls hA hl)
      · cases h
    · cases h
  · cases hdat
theorem pClone_k {idx j n e9 ci mx : Nat} (C : pCtx p R s m args meth c D b n0 i cA) (h : pClone pc lv st w = some (.inl q)) (hd : decode (pB i) pc = .ok (.invokevirtual idx, 3)) (hdat : pCallOK i idx [1, 9] [9, j, n, e9, ci, mx] = true) (hn : n0 ≤ w.length) (hz : z0 ≤ pwsz w) (hc1 : q.2.2.2.length - n0 ≤ R.cells) (hc2 : pwsz q.2.2.2 - z0 ≤ R.slots)
    (k : pK p l e R s m args below meth c D b n0 z0 i cA Q q) : pK p l e R s m args below meth c D b n0 z0 i cA Q (pc, lv, st, w) := by
  intro H locs ls hA hl
  obtain ⟨hx, hb, hml, hr, hown, hts, hN, hK, hlk, hnm, hsz, hRf, hRl⟩ := C
  unfold pCallOK at hdat
  simp only [Bool.and_eq_true] at hdat
  obtain ⟨⟨-, h1⟩, h2, h3⟩ := hdat
  obtain ⟨q9, hF, e1, e2, e3, e4⟩ := pCa_use h1
  unfold pCaF at hF
  rw [e3, e1, e2] at hF
  obtain ⟨f1, f2, f3, f4, f5⟩ := hF
  have h5 : 23 ≤ pLo i := pBle h3
  unfold pClone pGo1 at h
  split at h
  · rename_i a st'
    split at h
    · rename_i n9 f hw
      rcases pCond' h with ⟨hc, h⟩ | ⟨_, h⟩
      · cases h
        have h8 : pCat st' ≤ 8 := pBle hc
        have h6 : ((st'.map (pv b)).map (fun v => v.category)).sum ≤ 8 := by rw [pCat_sum]; exact h8
        simp only [List.length_append, List.length_singleton, pwsz_app, pcsz] at hc1 hc2
        show W p l e R s m args below meth c H locs (w.length - n0) (pwsz w - z0) Q (F0 m pc ls (.ref (pAdr b a) :: st'.map (pv b)))
        refine va_clone hx hb (by rw [hml]; exact hl.1.symm) hown (hts _ f1) (hts _ f4) (hts _ f2) (hts _ f3) (hts _ f5) (hN _ pCaI) hK hA.1.1 (pwv_D b cA w) hA.2 (pAdS_of hsz) (a - 1) 0 (x := (n9, .inl f)) (ty := .int) (pwv_at hw (pPos hA hw rfl)) rfl (va_nm_int (hK.2 0 _ rfl).2) (fun i9 v9 hv9 => ?_) (Nat.le_trans (pBle h2) hRf) (by omega) (by omega) (by show _ + n9 ≤ _; omega) hd (fun q1 H1 _ hP hD hS => pK_app (c1 := .inl (0, n9, .inl f)) hsz hn hz k hl hP hD hS hA)
        have hv9 : (arrV (cA 0) n9 (fun j => .int (f j))).slots[i9]? = some v9 := hv9
        by_cases g : i9 < n9
        · rw [arrV_read _ _ g] at hv9
          cases hv9
          rfl
        · rw [arrV_none _ _ g] at hv9
          cases hv9
      · cases h
    · cases h
  · cases h
end PST5
