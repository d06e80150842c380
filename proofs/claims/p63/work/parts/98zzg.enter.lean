/-! THE LAW FROM ITS ENTRY: a run of the plain machine (w_law) is one of the machine. -/
theorem pInst : ∀ (k : Nat) (q : vw_C), vwCl[k]? = some q → Cond.instantiable q.1 q.2.2 ∈ pG0 := by
  intro k q hq
  match k, hq with
  | 0, hq => obtain ⟨c9, h1, -, h2, -⟩ := pnw_8; cases hq.symm.trans h1; exact h2
  | 1, hq => obtain ⟨c9, h1, -, h2, -⟩ := pnw_1; cases hq.symm.trans h1; exact h2
  | 2, hq => obtain ⟨c9, h1, -, h2, -⟩ := pnw_6; cases hq.symm.trans h1; exact h2
  | 3, hq => obtain ⟨c9, h1, -, h2, -⟩ := pnw_3; cases hq.symm.trans h1; exact h2
  | 4, hq => obtain ⟨c9, h1, -, h2, -⟩ := pnw_4; cases hq.symm.trans h1; exact h2
  | 5, hq => obtain ⟨c9, h1, -, h2, -⟩ := pnw_2; cases hq.symm.trans h1; exact h2
  | 6, hq => obtain ⟨c9, h1, -, h2, -⟩ := pnw_7; cases hq.symm.trans h1; exact h2
  | 7, hq => obtain ⟨c9, h1, -, h2, -⟩ := pnw_5; cases hq.symm.trans h1; exact h2
  | 8, hq => obtain ⟨c9, h1, -, h2, -⟩ := pnw_0; cases hq.symm.trans h1; exact h2
  | 9, hq => obtain ⟨c9, h1, -, h2, -⟩ := pnw_9; cases hq.symm.trans h1; exact h2
  | k + 10, hq => simp [vwCl] at hq
theorem ra_obj {args : Array Value} {s : State} {C : String} (h : (Cond.arrayOver (.object C)).before args s = true) : ∃ A : ClassId, ArrOfT s A (.object C) ∧ va_RA s A (.object C) := by
  obtain ⟨comp, c, k, h1, h2, h3, h4, h5⟩ := Cond.arrayOver_spec h
  exact ⟨c, fun n z => ⟨fun k h => (by cases h), k, h3, comp, h4⟩, k, comp, h3, h4, h1, h5⟩
theorem ra_arr {args : Array Value} {s : State} {t : FieldType} (h : (Cond.arrayOver (.array t)).before args s = true) : ∃ A : ClassId, ArrOfT s A (.array t) ∧ va_RA s A (.array t) := by
  obtain ⟨comp, c, k, h1, h2, h3, h4, h5⟩ := arrayOverA_spec h
  exact ⟨c, fun n z => ⟨fun k h => (by cases h), k, h3, comp, h4⟩, h5⟩
theorem ra_cls {args : Array Value} {s : State} {ty : FieldType} (h : (Cond.arrayClass ty).before args s = true) : ∃ A : ClassId, ArrOfT s A ty ∧ s.vm.findClass ("[" ++ ty.toString) = some A := by
  obtain ⟨A, kA, comp, h1, h2, h3⟩ := Cond.arrayClass_spec h
  exact ⟨A, fun n z => ⟨fun k h => (by cases h), kA, h2, comp, h3⟩, h1⟩
/-- what the tables say of the classes, in one piece -/
theorem law_K {args : Array Value} {s : State} (hG : ∀ w ∈ pG0, w.before args s = true) (hN : ∀ x ∈ pN0, va_Nw x s) : ∃ (D : va_G) (cA : Nat → ClassId), va_K D vwCl (pTys cA) s := by
  have hD1 : ∀ k : Nat, ∃ z : ClassId × (Nat → Nat), ∀ q : vw_C, vwCl[k]? = some q → u_Kn s q.1 q.2.1 q.2.2 z.1 z.2 := by
    intro k
    cases hq : vwCl[k]? with
    | none => exact ⟨(0, fun _ => 0), fun q h => by cases h⟩
    | some q =>
      obtain ⟨cC, iS, h⟩ := u_known (C := q.1) (T := q.2.1) (N := q.2.2) (n := q.2.2) hG (pU_in 0 k q hq) (hG _ (pInst k q hq))
      exact ⟨(cC, iS), fun q2 h2 => by cases h2; exact h⟩
  obtain ⟨A0, a01, a02⟩ := ra_cls (hG _ pAc0)
  obtain ⟨A1, a11, a12⟩ := ra_cls (hG _ pAc1)
  obtain ⟨A2, a21, a22⟩ := ra_cls (hG _ pAc2)
  obtain ⟨A3, a3⟩ := ra_arr (hN _ pAo3)
  obtain ⟨A4, a4⟩ := ra_arr (hN _ pAo4)
  obtain ⟨A5, a5⟩ := ra_obj (hN _ pAo5)
  refine ⟨(fun k => (Classical.choose (hD1 k)).1, fun k => (Classical.choose (hD1 k)).2), fun k => if k = 0 then A0 else if k = 1 then A1 else if k = 2 then A2 else if k = 3 then A3 else if k = 4 then A4 else A5, fun k q hq => Classical.choose_spec (hD1 k) q hq, fun k q hq => ?_⟩
  match k, hq with
  | 0, hq => cases hq; exact ⟨a01, a02⟩
  | 1, hq => cases hq; exact ⟨a11, a12⟩
  | 2, hq => cases hq; exact ⟨a21, a22⟩
  | 3, hq => cases hq; exact a3
  | 4, hq => cases hq; exact a4
  | 5, hq => cases hq; exact a5
  | k + 6, hq => simp [pTys] at hq
theorem ao_nw {t : FieldType} {args : Array Value} {s : State} (h : (Cond.arrayOver t).before args s = true) : va_Nw (.arrayOver t) s := by
  unfold va_Nw
  unfold Cond.before at h ⊢
  unfold Cond.holds at h ⊢
  exact h
/-- the end: it answers 1, nothing is written that was there before, within its room -/
def lz_Q (nc ns : Nat) (below : List Frame) (s : State) : State → Prop := fun t => ∃ o, t.status = .running ∧ Ended t below o ∧ o = .returned (some (.int 1)) ∧ Framed s o t [] nc ns
theorem lz_of {D : va_G} {b : pBas} {cA : Nat → ClassId} {w : pW} {below : List Frame} {args : Array Value} {s t : State} {mc ms nc ns : Nat} (hs : pSiz b 1 s.heap.size) (hc : mc ≤ nc) (hm : ms ≤ ns) (h : MQ below (pPost D b cA (some (.int (bI true))) w) args s mc ms (pAdS b) t) : lz_Q nc ns below s t := by
  obtain ⟨o, h1, h2, ⟨ho, -⟩, L, ⟨hv, hW, hF⟩, hL⟩ := h
  refine ⟨o, h1, h2, ho, hv, hW, hF.weaken (fun x hx hlt => ?_) hc hm⟩
  exfalso
  have h9 : b.1.1 + 1 ≤ x.base := hL x hx
  have h8 : s.heap.size = b.1.1 + 1 := hs.1
  have h7 : s.heap.size ≤ x.base := by rw [h8]; exact h9
  exact Nat.not_lt.mpr h7 hlt
theorem iI_back (x : Int32) : iI x.toInt = x := Int32.ofInt_toInt x
set_option maxHeartbeats 4000000 in
/-- THE LAW, from its entry, over any script of at most 260 ints -/
theorem law_enter {p : Program} {l : Launch} {e : Env} {R : Room} {s : State} {m : MethodId} {below : List Frame} {meth : Method} {c : Code} {bs L : Nat} {xs : Nat → Int32} (hL : L ≤ 260) (hx : p.tables.exec = Jvm.exec) (hb : c.code = pB 158) (hml : c.maxLocals = pX 158) (hr : meth.sig.returnType = pR 158) (hown : s.vm.findClass (pN (pO 158)) = some m.cls) (hts : ∀ w ∈ lw_tbl, w.before #[Value.ref bs] s = true) (hX : va_X bs L xs s s.heap) (hlocks : meth.locks = false) (hnm : meth.name = (pY 158).name) (hRf : pFr 158 ≤ R.frames) (hRl : pLo 158 ≤ R.locals)
    {nc ns : Nat} (hnc : 107 + 757 + 2846 * 44 + 757 * 21 ≤ nc) (hns : pwsz (nP 0) + 1740 + 3835 + (2 * pwsz (nP 0) + 19135) * 44 + 3835 * 21 ≤ ns) (hRc : nc ≤ R.cells) (hRs : ns ≤ R.slots) :
    W p l e R s m #[Value.ref bs] below meth c s.heap [] 0 0 (lz_Q nc ns below s) (entryFrame m ([Value.ref bs] : List Value).toArray (pX 158)) := by
  have hG : ∀ w ∈ pG0, w.before #[Value.ref bs] s = true := fun w hw => hts w (pG0_in hw)
  have hN : ∀ x ∈ pN0, va_Nw x s := fun x hx9 => by
    have h9 := (List.mem_filter.mp hx9).2
    have h8 := hts x (pN0_in hx9)
    unfold pNestW at h9
    split at h9
    · exact va_Nw.of rfl h8
    · exact va_Nw.of rfl h8
    · exact ao_nw h8
    · cases h9
  obtain ⟨D, cA, hK⟩ := law_K hG hN
  have hbl : bs < s.heap.size := by
    obtain ⟨scr, g1, -⟩ := id hX
    exact (Array.getElem?_eq_some_iff.mp g1).1
  have hbp : bs ≤ s.heap.size - 1 := by omega
  obtain ⟨b, eb⟩ : ∃ b : pBas, b.1 = (s.heap.size - 1, bs) := ⟨⟨(s.heap.size - 1, bs), hbp⟩, rfl⟩
  have hsz : pSiz b 1 s.heap.size := by
    have e1 : b.1.1 = s.heap.size - 1 := congrArg Prod.fst eb
    exact ⟨by omega, Nat.le_refl _⟩
  have eB : b.1.2 = bs := congrArg Prod.snd eb
  have eA : pAdr b 0 = bs := eB
  obtain ⟨sc, esc⟩ : ∃ sc : Nat → Int, sc = fun j => (xs j).toInt := ⟨_, rfl⟩
  have hsc : (∀ j : Nat, sm (sc j)) ∧ (0 : Nat) = 0 := ⟨fun j => by subst esc; exact ⟨Int32.le_toInt (xs j), Int32.toInt_lt (xs j)⟩, rfl⟩
  have exs : (fun j => iI (sc j)) = xs := by
    subst esc
    funext j
    exact iI_back (xs j)
  obtain ⟨r, w1, ⟨er, hg⟩, nn, hrun⟩ := w_law (w0 := [cS L sc]) (s := 0) rfl hsc hL rfl
  subst er
  have e0 : pwsz [cS L sc] = L := by simp [pwsz, pcsz]
  have hC : pCtx p R s m #[Value.ref bs] meth c D b 1 158 cA := ⟨hx, hb, hml, hr, hown, hG, hN, hK, hlocks, hnm, hsz, hRf, hRl⟩
  have hlen : w1.length - 1 ≤ nc := by have := hg.1; simp only [List.length_singleton] at this; omega
  have hpw : pwsz w1 - L ≤ ns := by have := hg.2; rw [e0] at this; omega
  have hk := sim nn 158 _ _ w1 hrun p l e R s m #[Value.ref bs] below meth c D b 1 L cA hC (Nat.le_trans hlen hRc) (Nat.le_trans hpw hRs) (Nat.le_refl _) (Nat.le_of_eq e0.symm)
  have hl := lv_entry ([.ref bs]) (n := pX 158) (Nat.le_of_ble_eq_true rfl)
  rw [lg_entry_eq]
  generalize (lg_sl ([.ref bs]) ++ List.replicate (pX 158 - (lg_sl ([.ref bs])).length) Slot.unset).toArray = ls at hl ⊢
  have hl : lv_has ls (pX 158) (pw2 b [(0, .ref 0)]) := by
    show lv_has ls (pX 158) [(0, .ref (pAdr b 0))]
    rw [eA]
    exact hl
  have hA : pAt s D b cA [cS L sc] s.heap [] := by
    refine ⟨⟨fun k q hq => ?_, L, xs, ?_, ?_⟩, va_S.rf⟩
    · rw [pwv_get] at hq
      cases hq
    · show some (cS L sc) = _
      rw [← exs]
    · show va_X b.1.2 L xs s s.heap
      rw [eB]
      exact hX
  have h0 : W p l e R s m #[Value.ref bs] below meth c s.heap [] (([cS L sc] : pW).length - 1) (pwsz [cS L sc] - L) (MQ below (pPost D b cA (some (.int (bI true))) w1) #[Value.ref bs] s (w1.length - 1) (pwsz w1 - L) (pAdS b)) (F0 m 0 ls []) := hk s.heap [] ls hA hl
  rw [e0, Nat.sub_self] at h0
  intro T hT X
  obtain ⟨t, a1, h1⟩ := h0 T hT X
  exact ⟨t, a1, lz_of hsz hlen hpw h1⟩
