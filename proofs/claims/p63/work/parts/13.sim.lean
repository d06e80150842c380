/-! A RUN OF THE PLAIN MACHINE IS A RUN OF THE MACHINE: calls, returns, all. -/
def pPre (D : va_G) (b : pBas) (cA : Nat → ClassId) (w : pW) (as : List Value) : Array Value → State → Prop := va_Pc (as.map (pv b)) (fun U => pSiz b w.length U.heap.size ∧ (va_P D vwCl (pwv b cA w) U.heap ∧ pScr U b w) ∧ va_K D vwCl (pTys cA) U ∧ ∀ x ∈ pN0, va_Nw x U)
def pPost (D : va_G) (b : pBas) (cA : Nat → ClassId) (r : Option Value) (w : pW) : Array Value → State → Outcome → State → Prop := fun _ st oc t => oc = .returned (r.map (pv b)) ∧ (va_P D vwCl (pwv b cA w) t.heap ∧ pScr st b w) ∧ st.heap.size ≤ t.heap.size ∧ ∀ x : Nat, x < st.heap.size → ¬ pAdS b x → t.heap[x]? = st.heap[x]?
def pRoom (j mc ms : Nat) : Room := { frames := pFr j, cells := mc, slots := ms, locals := pLo j }
/-- what a run says of the machine -/
def pMet (l : Launch) (D : va_G) (b : pBas) (cA : Nat → ClassId) (j : Nat) (as : List Value) (w : pW) (r : Option Value) (w1 : pW) : Prop :=
  Met l (pY j) (pWs j) (pRoom j (w1.length - w.length) (pwsz w1 - pwsz w)) (pPre D b cA w as) (pPost D b cA r w1) (w1.length - w.length) (pwsz w1 - pwsz w) (pAdS b)
theorem pAO_warm {t : FieldType} {u U : State} (hvm : u.vm.Alike U.vm) (h : va_Nw (.arrayOver t) u) : va_Nw (.arrayOver t) U := by
  have key : ∀ (o : Option ClassId) (comp c : ClassId) (k : Class) (nm : String), u.vm.findClass nm = some comp → (u.vm.classes.findIdx? fun (x : Class) => match x.kind with | .array component _ => component == comp | _ => false) = some c → u.vm.classes[c]? = some k → k.kind = .array comp t → u.vm.findClass ("[" ++ t.toString) = some c →
      U.vm.findClass nm = some comp ∧ (U.vm.classes.findIdx? fun (x : Class) => match x.kind with | .array component _ => component == comp | _ => false) = some c ∧ (∃ k', U.vm.classes[c]? = some k' ∧ k'.kind = .array comp t) ∧ U.vm.findClass ("[" ++ t.toString) = some c := by
    intro o comp c k nm h1 h2 h3 h4 h5
    obtain ⟨k', hk', he⟩ := hvm.2.2 _ _ h3
    refine ⟨by rw [hvm.findClass]; exact h1, ?_, ⟨k', hk', by rw [he]; exact h4⟩, by rw [hvm.findClass]; exact h5⟩
    exact (hvm.findIdx?_eq _ (fun _ => rfl)).trans h2
  cases t with
  | object C => exact va_AO.moved hvm h
  | array t =>
    obtain ⟨comp, c, k, h1, h2, h3, h4, h5⟩ := arrayOverA_spec h
    obtain ⟨f1, hi, ⟨k', hk', hkind⟩, f2⟩ := key none comp c k _ h1 h2 h3 h4 h5
    unfold va_Nw Cond.before Cond.holds
    simp only [Cond.value]
    rw [f1, Option.bind_some]
    refine (congrArg (fun o : Option Nat => (o.bind (fun c => (U.vm.classes[c]?).map fun (k : Class) => match k.kind with | .array _ ty => decide (ty = FieldType.array t) && decide (U.vm.findClass ("[" ++ (FieldType.array t).toString) = some c) | _ => false) == some true)) hi).trans ?_
    simp [hk', hkind, f2]
  | _ =>
    exfalso
    unfold va_Nw Cond.before Cond.holds at h
    simp [Cond.value] at h
theorem pClone_c {pc : Nat} {lv : pLv} {st : List Value} {w : pW} {y : (Nat × List Value × List Value) ⊕ Option Value} (h : pClone pc lv st w = some (.inr y)) : False := by
  unfold pClone pGo1 at h
  repeat' (first | (cases h; done) | split at h | (rcases pCond h with ⟨_, h⟩ | ⟨_, h⟩))
theorem pN0_warm {x : Cond} (hx : x ∈ pN0) {s U : State} (hW : s.WarmedH U.vm) (h : va_Nw x s) : va_Nw x U := by
  have h1 := (List.mem_filter.mp hx).2
  unfold pNestW at h1
  split at h1
  · exact va_Nw.warmM hW h
  · exact va_Nw.warmC hW h
  · exact pAO_warm hW.alike h
  · cases h1
theorem pPre_blind (D : va_G) (b : pBas) (cA : Nat → ClassId) (w : pW) (as : List Value) : FrameBlind (pPre D b cA w as) := by
  intro a U g mk h
  obtain ⟨h0, h1, h2, h3, h4⟩ := h
  exact ⟨h0, h1, ⟨h2.1, pScr_moved (s := U) (U := U.calling g mk a) h2.2 (Vm.Alike.refl U.vm) rfl⟩, va_K.moved (u := U) (U := U.calling g mk a) (Vm.Alike.refl U.vm) h3, fun x hx => by
    have h9 := (List.mem_filter.mp hx).2
    have hz := h4 x hx
    unfold pNestW at h9
    split at h9
    · exact va_Nw.same rfl (u := U) (U := U.calling g mk a) rfl hz
    · exact va_Nw.same rfl (u := U) (U := U.calling g mk a) rfl hz
    · exact pAO_warm (U := U.calling g mk a) (Vm.Alike.refl U.vm) hz
    · cases h9⟩
theorem pGoodIn (j : Nat) (h : j < 158) : GoodIn pG0 (pWs j) := by
  intro x hx
  have hg : x ∈ pG0 := by
    rcases List.mem_cons.mp hx with rfl | hx
    · exact (pMe_all j h).1
    · exact hx
  exact ⟨hg, good_of_word (pG0_good hg)⟩
theorem pN_mh (o : Nat) : pN o ≠ "java/lang/invoke/MethodHandle" ∧ pN o ≠ "java/lang/invoke/VarHandle" := by
  unfold pN
  rw [List.getD_eq_getElem?_getD]
  cases h : pON[o]? with
  | none => exact ⟨by decide, by decide⟩
  | some x => exact pON_mh x (List.mem_of_getElem? h)
section PSIM
variable {p : Program} {l : Launch} {e : Env} {R : Room} {s : State} {m : MethodId} {args : Array Value} {below : List Frame} {meth : Method} {c : Code} {D : va_G} {b : pBas} {n0 z0 i : Nat} {cA : Nat → ClassId} {Q : State → Prop}
variable {pc : Nat} {dt : List Nat} {lv : pLv} {st : List Value} {w : pW} {q : pSt}
/-- behind a call that was run -/
theorem pcall_go {H : Heap} {locs : List Loc} {ls : Array Slot} {st0 rest : List Value} {r : Option Value} {w1 : pW} {a : Array Value}
    (hr : va_Run p l e R s m args below meth c H locs (w.length - n0) (pwsz w - z0) (w1.length - w.length) (pwsz w1 - pwsz w) (F0 m pc ls st0) (rest.map (pv b)) (pPost D b cA r w1 a) (pAdS b)) (hA : pAt s D b cA w H locs) (hl : lv_has ls (pX i) (pw2 b lv)) (hn : n0 ≤ w.length) (hz : z0 ≤ pwsz w) (hle : pLe w w1)
    (k : pK p l e R s m args below meth c D b n0 z0 i cA Q (pc + 3, lv, r.toList ++ rest, w1)) : W p l e R s m args below meth c H locs (w.length - n0) (pwsz w - z0) Q (F0 m pc ls st0) := by
  intro T hT X
  obtain ⟨v, st₀, t, T', L, h0, X', hL, e1, e2, ⟨hv, hP, hsz, hkeep⟩, go⟩ := hr T hT X
  cases hv
  rw [h0] at hsz hkeep
  have hS := hA.2
  have hAt : pAt s D b cA w1 T'.heap (locs ++ L) := ⟨⟨by rw [e1]; exact hP.1, pScr_join hA.1.2 hA.2 h0 hP.2⟩, Nat.le_trans hS.1 (by rw [e1]; exact hsz), fun x h1 h2 => by rw [e1, hkeep x (Nat.lt_of_lt_of_le h1 hS.1) h2]; exact hS.2.1 x h1 h2, fun x hx => by
    rcases List.mem_append.mp hx with h | h
    · exact hS.2.2 x h
    · exact hL x h⟩
  have k1 := k T'.heap (locs ++ L) ls hAt hl
  have e3 : w1.length - n0 = w.length - n0 + (w1.length - w.length) := by have := hle.1; omega
  have e4 : pwsz w1 - z0 = pwsz w - z0 + (pwsz w1 - pwsz w) := by have := hle.2; omega
  simp only [e3, e4] at k1
  obtain ⟨t2, a1, b1⟩ := k1 T' rfl X'
  refine ⟨t2, go t2 ?_, b1⟩
  have e5 : (r.map (pv b)).toList ++ rest.map (pv b) = (r.toList ++ rest).map (pv b) := by cases r <;> simp
  show Steps p.tables e below (T'.setTop (F0 m (pc + 3) ls ((r.map (pv b)).toList ++ rest.map (pv b)))) t2
  rw [e5]
  exact a1
theorem pPre_at {as : List Value} {H : Heap} {locs : List Loc} (hA : pAt s D b cA w H locs) (hH : pSiz b w.length H.size) (hK : va_K D vwCl (pTys cA) s) (hN : ∀ x ∈ pN0, va_Nw x s) : ∀ U : State, U.heap = H → s.WarmedH U.vm → pPre D b cA w as (as.map (pv b)).toArray U :=
  fun U hU hW => ⟨rfl, by rw [hU]; exact hH, ⟨by rw [hU]; exact hA.1.1, pScr_moved hA.1.2 hW.alike (by rw [hU]; exact pScr_H hA.1.2 hA.2)⟩, va_K.moved hW.alike hK, fun x hx => pN0_warm hx hW (hN x hx)⟩
theorem pCls (C : pCtx p R s m args meth c D b n0 i cA) {a ci j : Nat} {fs : List Value} {H : Heap} {locs : List Loc} (hA : pAt s D b cA w H locs) (hw : w[a]? = some (.inr (ci, fs))) (hc : ci = pO j) (h10 : ci < 10) (hj : j < 158) : ∃ cell : Cell, H[pAdr b a]? = some cell ∧ cell.vm.isStatics = false ∧ s.vm.findClass (pY j).cls = some cell.cls := by
  obtain ⟨hx, hb, hml, hr, hown, hts, hN, hK, hlk, hnm, hsz, hRf, hRl⟩ := C
  have hlen : ci < vwCl.length := h10
  have hq := List.getElem?_eq_getElem hlen
  obtain ⟨cell, h1, h2, h3⟩ := va_recv hK hA.1.1 hq (pwv_at hw (pPos hA hw rfl))
  refine ⟨cell, h1, h2, ?_⟩
  rw [(pMe_all j hj).2.2.2, ← hc, ← pVw_N ci h10 _ hq]
  exact h3
theorem pcall {idx kd j n e9 ci mx : Nat} {as rest : List Value} {r : Option Value} {w1 : pW} (C : pCtx p R s m args meth c D b n0 i cA) (hdt : dt = [kd, j, n, e9, ci, mx]) (h : pCall pc dt lv st w = some (.inr (.inl (j, as, rest))))
    (hM : pMet l D b cA j as w r w1) (hle : pLe w w1) (hn : n0 ≤ w.length) (hz : z0 ≤ pwsz w) (hc1 : w1.length - n0 ≤ R.cells) (hc2 : pwsz w1 - z0 ≤ R.slots)
    (hins : (decode (pB i) pc = .ok (.invokevirtual idx, 3) ∧ pCallOK i idx [1, 9] dt = true) ∨ (decode (pB i) pc = .ok (.invokespecial idx, 3) ∧ pCallOK i idx [0, 3, 5] dt = true) ∨ (decode (pB i) pc = .ok (.invokestatic idx, 3) ∧ pCallOK i idx [2, 4, 7, 8] dt = true))
    (k : pK p l e R s m args below meth c D b n0 z0 i cA Q (pc + 3, lv, r.toList ++ rest, w1)) : pK p l e R s m args below meth c D b n0 z0 i cA Q (pc, lv, st, w) := by
  intro H locs ls hA hl
  refine W_sz fun hu => ?_
  have C9 := C
  obtain ⟨hx, hb, hml, hr, hown, hts, hN, hK, hlk, hnm, hsz, hRf, hRl⟩ := C
  have hH := pAt_sz hsz hA hn hu
  subst hdt
  have hf : w.length - n0 + (w1.length - w.length) ≤ R.cells ∧ pwsz w - z0 + (pwsz w1 - pwsz w) ≤ R.slots := by
    have h1 := hle.1
    have h2 := hle.2
    omega
  have hpre := pPre_at (as := as) hA hH hK hN
  have hbl := pPre_blind D b cA w as
  -- what the check says of a call with a body
  have chk : ∀ ks : List Nat, (kd = 1 ∨ kd = 2 ∨ kd = 3 ∨ kd = 4 ∨ kd = 5) → pCallOK i idx ks [kd, j, n, e9, ci, mx] = true → j < 158 ∧ pFr j + 1 ≤ pFr i ∧ 8 + (pX j + 11) + pLo j ≤ pLo i ∧ (parseMethodDescriptor (pY j).desc).map (fun d => d.parameters.length) = some n ∧ (kd = 1 → ci = pO j ∧ ci < 10) ∧ ∃ q, pCaF q ∧ q.1 = pO i ∧ q.2.1 = idx ∧ q.2.2.1 = kd ∧ q.2.2.2.1 = j := by
    intro ks hk hdat
    unfold pCallOK at hdat
    simp only [Bool.and_eq_true] at hdat
    obtain ⟨⟨-, h1⟩, h2⟩ := hdat
    have h3 := pCa_use h1
    rcases hk with rfl | rfl | rfl | rfl | rfl <;> simp only [Bool.and_eq_true, decide_eq_true_eq] at h2
    · exact ⟨pBle h2.1.1.1.1.1, pBle h2.1.1.1.1.2, pBle h2.1.1.1.2, h2.1.1.2, fun _ => ⟨pBeq h2.1.2.1, pBle h2.1.2.2⟩, h3⟩
    · exact ⟨pBle h2.1.1.1.1.1, pBle h2.1.1.1.1.2, pBle h2.1.1.1.2, h2.1.1.2, fun z => absurd z (by decide), h3⟩
    · exact ⟨pBle h2.1.1.1.1.1, pBle h2.1.1.1.1.2, pBle h2.1.1.1.2, h2.1.1.2, fun z => absurd z (by decide), h3⟩
    · exact ⟨pBle h2.1.1.1.1.1, pBle h2.1.1.1.1.2, pBle h2.1.1.1.2, h2.1.1.2, fun z => absurd z (by decide), h3⟩
    · exact ⟨pBle h2.1.1.1.1.1, pBle h2.1.1.1.1.2, pBle h2.1.1.1.2, h2.1.1.2, fun z => absurd z (by decide), h3⟩
  have mh : j < 158 → (pY j).cls ≠ "java/lang/invoke/MethodHandle" ∧ (pY j).cls ≠ "java/lang/invoke/VarHandle" := fun hj => by
    rw [(pMe_all j hj).2.2.2]
    exact pN_mh (pO j)
  have ini : j < 158 → (Cond.initialized (pY j).cls).before args s = true := fun hj => hts _ (id (pMe_all j hj).2.1)
  -- on an object: the arguments and the receiver
  have onObj : ∀ {as9 rest9 : List Value}, pCallI j n ci mx st w = some (.inr (.inl (j, as9, rest9))) → ∃ (a : Nat) (xs : List Value) (fs : List Value), as9 = .ref a :: xs.reverse ∧ xs.length = n ∧ st = xs ++ .ref a :: rest9 ∧ w[a]? = some (.inr (ci, fs)) ∧ pCat rest9 ≤ 8 := by
    intro as9 rest9 h9
    unfold pCallI at h9
    split at h9
    · rename_i as2 a st2 hp
      split at h9
      · rename_i c2 fs hw
        rcases pCond h9 with ⟨hc, h9⟩ | ⟨_, h9⟩
        · cases h9
          simp only [Bool.and_eq_true] at hc
          have e0 := pBeq hc.1.1
          subst e0
          obtain ⟨xs, e1, e2, e3⟩ := pArgs_spec _ _ _ _ _ hp
          refine ⟨a, xs, fs, ?_, e1, e2, hw, pBle hc.1.2⟩
          rw [e3, List.append_nil]
        · cases h9
      · cases h9
    · cases h9
  have onCls : ∀ {as9 rest9 : List Value}, pCallS j n mx st = some (.inr (.inl (j, as9, rest9))) → ∃ (xs : List Value), as9 = xs.reverse ∧ xs.length = n ∧ st = xs ++ rest9 ∧ pCat rest9 ≤ 8 := by
    intro as9 rest9 h9
    unfold pCallS at h9
    split at h9
    · rename_i as2 st2 hp
      rcases pCond h9 with ⟨hc, h9⟩ | ⟨_, h9⟩
      · cases h9
        obtain ⟨xs, e1, e2, e3⟩ := pArgs_spec _ _ _ _ _ hp
        rw [Bool.and_eq_true] at hc
        refine ⟨xs, ?_, e1, e2, pBle hc.1⟩
        rw [e3, List.append_nil]
      · cases h9
    · cases h9
  unfold pCall at h
  simp only at h
  have Sfix : CallFix p m c (pB i) (pX i) s args pG0 (pN (pO i)) := ⟨hx, hb, hml, hown, hts⟩
  rcases hins with ⟨hd, hdat⟩ | ⟨hd, hdat⟩ | ⟨hd, hdat⟩
  · have hk : kd = 1 ∨ kd = 9 := by
      have h2 := hdat
      unfold pCallOK at h2
      simp only [Bool.and_eq_true] at h2
      simpa using h2.1.1
    rcases hk with hk | hk
    rotate_left
    · exfalso
      subst hk
      have h9 : pClone pc lv st w = some (.inr (.inl (j, as, rest))) := h
      exact pClone_c h9
    subst hk
    obtain ⟨hj, g1, g2, g3, g4, q9, hF, e1, e2, e3, e4⟩ := chk _ (Or.inl rfl) hdat
    unfold pCaF at hF
    rw [e3, e1, e2, e4] at hF
    obtain ⟨a, xs, fs, rfl, hxs, hst, hw, h8⟩ := onObj h
    have cw : CallW R s args (pN (pO i)) (pY j).cls idx (pY j) (pB j) (pX j) (pR j) (pWs j) (pRoom j (w1.length - w.length) (pwsz w1 - pwsz w)) (w1.length - w.length) (pwsz w1 - pwsz w) n :=
      ⟨callB_of n hts (pGoodIn j hj) rfl rfl rfl (ini hj) (hts _ (id hF.1)) ⟨(mh hj).1, (mh hj).2, g3⟩ ⟨Nat.le_trans g1 hRf, Nat.le_trans g2 hRl⟩, hts _ (id hF.2.1), hts _ (id hF.2.2)⟩
    refine pcall_go (rest := rest) (va_runV (As := (xs.reverse).map (pv b)) (b := pAdr b a) Sfix hM cw ⟨hbl, pCls C9 hA hw (g4 rfl).1 (g4 rfl).2 hj, hpre⟩ rfl (by simp [hxs]) hl.1 ?_ (lv_room (pCat_le h8)) hd hf) hA hl hn hz hle k
    rw [hst]
    simp [pv]
  · have hk : kd = 0 ∨ kd = 3 ∨ kd = 5 := by
      have h2 := hdat
      unfold pCallOK at h2
      simp only [Bool.and_eq_true] at h2
      simpa using h2.1.1
    rcases hk with rfl | rfl | rfl
    · exfalso
      have h9 : pNoRef pc lv st w = some (.inr (.inl (j, as, rest))) := h
      unfold pNoRef pOK8 at h9
      split at h9
      · rcases pCond h9 with ⟨_, h9⟩ | ⟨_, h9⟩ <;> cases h9
      · cases h9
    · obtain ⟨hj, g1, g2, g3, g4, q9, hF, e1, e2, e3, e4⟩ := chk _ (by decide) hdat
      unfold pCaF at hF
      rw [e3, e1, e2, e4] at hF
      obtain ⟨a, xs, fs, rfl, hxs, hst, hw, h8⟩ := onObj h
      have hcb : CallB R s args (pN (pO i)) idx (pY j) (pB j) (pX j) none (pWs j) (pRoom j (w1.length - w.length) (pwsz w1 - pwsz w)) (w1.length - w.length) (pwsz w1 - pwsz w) n :=
        callB_of (ws' := pG0) n hts (pGoodIn j hj) (by rw [← hF.2.2.2]; rfl) rfl rfl (ini hj) (hts _ (id hF.1)) ⟨(mh hj).1, (mh hj).2, g3⟩ ⟨Nat.le_trans g1 hRf, Nat.le_trans g2 hRl⟩
      refine pcall_go (rest := rest) (va_runI (As := (xs.reverse).map (pv b)) (b := pAdr b a) Sfix hM ⟨hcb, hF.2.2.1, hts _ (id hF.2.1)⟩ ⟨hbl, hpre⟩ rfl (by simp [hxs]) hl.1 ?_ (lv_room (pCat_le h8)) hd hf) hA hl hn hz hle k
      rw [hst]
      simp [pv]
    · obtain ⟨hj, g1, g2, g3, g4, q9, hF, e1, e2, e3, e4⟩ := chk _ (by decide) hdat
      unfold pCaF at hF
      rw [e3, e1, e2, e4] at hF
      obtain ⟨a, xs, fs, rfl, hxs, hst, hw, h8⟩ := onObj h
      have hcb : va_CN R s args (pN (pO i)) idx (pY j) (pHost (pO i)) (pB j) (pX j) none (pWs j) (pRoom j (w1.length - w.length) (pwsz w1 - pwsz w)) (w1.length - w.length) (pwsz w1 - pwsz w) n :=
        va_cnB (ws' := pG0) n hts (pGoodIn j hj) (by rw [← hF.2.2.2]; rfl) rfl rfl (hN _ hF.1) (ini hj) ⟨(mh hj).1, (mh hj).2, g3⟩ ⟨Nat.le_trans g1 hRf, Nat.le_trans g2 hRl⟩
      refine pcall_go (rest := rest) (va_runIN (As := (xs.reverse).map (pv b)) (b := pAdr b a) Sfix hM ⟨hcb, hF.2.2.1, hts _ (id hF.2.1)⟩ ⟨hbl, hpre⟩ rfl (by simp [hxs]) hl.1 ?_ (lv_room (pCat_le h8)) hd hf) hA hl hn hz hle k
      rw [hst]
      simp [pv]
  · have hk : kd = 2 ∨ kd = 4 ∨ kd = 7 ∨ kd = 8 := by
      have h2 := hdat
      unfold pCallOK at h2
      simp only [Bool.and_eq_true] at h2
      simpa using h2.1.1
    rcases hk with rfl | rfl | rfl | rfl
    · obtain ⟨hj, g1, g2, g3, g4, q9, hF, e1, e2, e3, e4⟩ := chk _ (by decide) hdat
      unfold pCaF at hF
      rw [e3, e1, e2, e4] at hF
      obtain ⟨xs, rfl, hxs, hst, h8⟩ := onCls h
      have hcb : CallB R s args (pN (pO i)) idx (pY j) (pB j) (pX j) (pR j) (pWs j) (pRoom j (w1.length - w.length) (pwsz w1 - pwsz w)) (w1.length - w.length) (pwsz w1 - pwsz w) n :=
        callB_of n hts (pGoodIn j hj) rfl rfl rfl (ini hj) (hts _ (id hF.1)) ⟨(mh hj).1, (mh hj).2, g3⟩ ⟨Nat.le_trans g1 hRf, Nat.le_trans g2 hRl⟩
      refine pcall_go (rest := rest) (va_runS (As := (xs.reverse).map (pv b)) Sfix hM ⟨hcb, hts _ (id hF.2)⟩ ⟨hbl, hpre⟩ rfl (by simp [hxs]) hl.1 ?_ (lv_room (pCat_le h8)) hd hf) hA hl hn hz hle k
      rw [hst]
      simp
    · obtain ⟨hj, g1, g2, g3, g4, q9, hF, e1, e2, e3, e4⟩ := chk _ (by decide) hdat
      unfold pCaF at hF
      rw [e3, e1, e2, e4] at hF
      obtain ⟨xs, rfl, hxs, hst, h8⟩ := onCls h
      have hcb : va_CN R s args (pN (pO i)) idx (pY j) (pHost (pO i)) (pB j) (pX j) (pR j) (pWs j) (pRoom j (w1.length - w.length) (pwsz w1 - pwsz w)) (w1.length - w.length) (pwsz w1 - pwsz w) n :=
        va_cnB n hts (pGoodIn j hj) rfl rfl rfl (hN _ hF.1) (ini hj) ⟨(mh hj).1, (mh hj).2, g3⟩ ⟨Nat.le_trans g1 hRf, Nat.le_trans g2 hRl⟩
      refine pcall_go (rest := rest) (va_runSN (As := (xs.reverse).map (pv b)) Sfix hM ⟨hcb, hts _ (id hF.2), trivial⟩ ⟨hbl, hpre⟩ rfl (by simp [hxs]) hl.1 ?_ (lv_room (pCat_le h8)) hd hf) hA hl hn hz hle k
      rw [hst]
      simp
    · exfalso
      revert h
      intro h
      have h9 : pCopy pc lv st w = some (.inr (.inl (j, as, rest))) := h
      unfold pCopy pOK8 at h9
      split at h9
      · rcases pCond h9 with ⟨_, h9⟩ | ⟨_, h9⟩
        · split at h9
          · rcases pCond h9 with ⟨_, h9⟩ | ⟨_, h9⟩
            · rcases pCond h9 with ⟨_, h9⟩ | ⟨_, h9⟩ <;> cases h9
            · cases h9
          · rcases pCond h9 with ⟨_, h9⟩ | ⟨_, h9⟩
            · rcases pCond h9 with ⟨_, h9⟩ | ⟨_, h9⟩ <;> cases h9
            · cases h9
          · cases h9
        · cases h9
      · cases h9
    · exfalso
      have h9 : pD2l pc lv st w = some (.inr (.inl (j, as, rest))) := h
      unfold pD2l pOK8 at h9
      split at h9
      · rcases pCond h9 with ⟨_, h9⟩ | ⟨_, h9⟩ <;> cases h9
      · cases h9
end PSIM
