/-! THE LAW, WALKED: from runs of the plain machine. -/
section LAW
variable {p : Program} {l : Launch} {e : Env} {s : State} {m : MethodId} {below : List Frame} {meth : Method} {c : Code} {D : va_G} {b bs L : Nat} {cA : Nat → ClassId} {xs : Nat → Int32} {Q : State → Prop}
def lCtx (p : Program) (s : State) (m : MethodId) (c : Code) (D : va_G) (b bs L : Nat) (cA : Nat → ClassId) (xs : Nat → Int32) : Prop :=
  p.tables.exec = Jvm.exec ∧ c.code = code ∧ c.maxLocals = 4 ∧ s.vm.findClass (pN 21) = some m.cls ∧ (∀ w ∈ pG0, w.before #[Value.ref bs] s = true) ∧ va_K D vwCl (pTys cA) s ∧ (∀ x ∈ pN0, va_Nw x s) ∧ s.heap.size = b ∧ va_X bs L xs s s.heap ∧ bs < b
/-- at pc, with these locals beside the script, this stack (as the machine has it), this world: it comes to Q -/
def lK (p : Program) (l : Launch) (e : Env) (s : State) (m : MethodId) (below : List Frame) (meth : Method) (c : Code) (D : va_G) (b bs : Nat) (cA : Nat → ClassId) (Q : State → Prop) (pc : Nat) (lv : pLv) (st : List Value) (w : pW) : Prop :=
  ∀ (H : Heap) (locs : List Loc) (ls : Array Slot), pAt s D b cA w H locs → lv_has ls 4 ((0, .ref bs) :: lv) → W p l e room_1 s m #[Value.ref bs] below meth c H locs w.length (pwsz w) Q (F0 m pc ls st)
theorem lcall_go {pc : Nat} {lv : pLv} {w : pW} {H : Heap} {locs : List Loc} {ls : Array Slot} {st0 rest : List Value} {r : Option Value} {w1 : pW} {a : Array Value}
    (hr : va_Run p l e room_1 s m #[Value.ref bs] below meth c H locs w.length (pwsz w) (w1.length - w.length) (pwsz w1 - pwsz w) (F0 m pc ls st0) rest (pPost D b cA r w1 a) (fun q => b ≤ q)) (hA : pAt s D b cA w H locs) (hl : lv_has ls 4 ((0, .ref bs) :: lv)) (hle : pLe w w1)
    (k : lK p l e s m below meth c D b bs cA Q (pc + 3) lv ((r.map (pv b)).toList ++ rest) w1) : W p l e room_1 s m #[Value.ref bs] below meth c H locs w.length (pwsz w) Q (F0 m pc ls st0) := by
  intro T hT X
  obtain ⟨v, st₀, t, T', L, h0, X', hL, e1, e2, ⟨hv, hP, hsz, hkeep⟩, go⟩ := hr T hT X
  cases hv
  rw [h0] at hsz hkeep
  have hS := hA.2
  have hAt : pAt s D b cA w1 T'.heap (locs ++ L) := ⟨by rw [e1]; exact hP, Nat.le_trans hS.1 (by rw [e1]; exact hsz), fun x h1 h2 => by rw [e1, hkeep x (Nat.lt_of_lt_of_le h1 hS.1) h2]; exact hS.2.1 x h1 h2, fun x hx => by
    rcases List.mem_append.mp hx with h | h
    · exact hS.2.2 x h
    · exact hL x h⟩
  have k1 := k T'.heap (locs ++ L) ls hAt hl
  have e3 : w1.length = w.length + (w1.length - w.length) := by have := hle.1; omega
  have e4 : pwsz w1 = pwsz w + (pwsz w1 - pwsz w) := by have := hle.2; omega
  rw [e3, e4] at k1
  obtain ⟨t2, a1, b1⟩ := k1 T' rfl X'
  exact ⟨t2, go t2 a1, b1⟩
/-- what is checked of a call in the law -/
def lOK (kd idx j n e9 ci mx : Nat) : Bool := (match pCaL[e9]? with
      | some q => Nat.beq q.1 21 && Nat.beq q.2.1 idx && Nat.beq q.2.2.1 kd && Nat.beq q.2.2.2.1 j && Nat.beq q.2.2.2.2.1 n
      | none => false) && Nat.ble (j + 1) 357 && Nat.ble (pFr j + 1) 13 && Nat.ble (8 + (pX j + 11) + pLo j) 514 && decide ((parseMethodDescriptor (pY j).desc).map (fun d => d.parameters.length) = some n) && Nat.beq ci (pO j) && Nat.ble (ci + 1) 10 && Nat.ble mx (pX j)
theorem lGoodIn (j : Nat) (h : j < 357) : GoodIn pG0 (pWs j) := by
  intro x hx
  have hg : x ∈ pG0 := by
    rcases List.mem_cons.mp hx with rfl | hx
    · exact (pMe_all j h).1
    · exact hx
  exact ⟨hg, good_of_word (pG0_good hg)⟩
theorem pAt_sz0 {w : pW} {H : Heap} {locs : List Loc} (hs : s.heap.size = b) (h : pAt s D b cA w H locs) (hu : H.size ≤ s.heap.size + w.length) : H.size = b + w.length := by
  have := pAt_lo (n0 := 0) hs h
  omega
theorem lcls (hK : va_K D vwCl (pTys cA) s) {w : pW} {a ci j : Nat} {fs : List Value} {H : Heap} {locs : List Loc} (hA : pAt s D b cA w H locs) (hw : w[a]? = some (.inr (ci, fs))) (hc : ci = pO j) (h10 : ci < 10) (hj : j < 357) : ∃ cell : Cell, H[b + a]? = some cell ∧ cell.vm.isStatics = false ∧ s.vm.findClass (pY j).cls = some cell.cls := by
  have hlen : ci < vwCl.length := h10
  have hq := List.getElem?_eq_getElem hlen
  obtain ⟨cell, h1, h2, h3⟩ := va_recv hK hA.1 hq (pwv_at hw)
  refine ⟨cell, h1, h2, ?_⟩
  rw [(pMe_all j hj).2.2.2, ← hc, ← pVw_N ci h10 _ hq]
  exact h3
theorem lcallV {pc idx j n e9 ci mx a : Nat} {fs as rest : List Value} {lv : pLv} {w w1 : pW} {r : Option Value} (C : lCtx p s m c D b bs L cA xs) (hd : decode code pc = .ok (.invokevirtual idx, 3)) (hok : lOK 1 idx j n e9 ci mx = true) (hw : w[a]? = some (.inr (ci, fs))) (hn : as.length = n) (hmx : pCat (.ref a :: as) ≤ mx) (hrest : pCat rest ≤ 8)
    (hrun : pRun j (.ref a :: as) w r w1) (h1 : w1.length ≤ 600000) (h2 : pwsz w1 ≤ 7302250) (k : lK p l e s m below meth c D b bs cA Q (pc + 3) lv ((r.map (pv b)).toList ++ rest.map (pv b)) w1) : lK p l e s m below meth c D b bs cA Q pc lv ((as.map (pv b)).reverse ++ .ref (b + a) :: rest.map (pv b)) w := by
  obtain ⟨hx, hb, hml, hown, hts, hK, hN, hsz, hX, hbl⟩ := C
  obtain ⟨nn, hrun⟩ := hrun
  unfold lOK at hok
  simp only [Bool.and_eq_true, decide_eq_true_eq] at hok
  obtain ⟨⟨⟨⟨⟨⟨⟨c1, c2⟩, c3⟩, c4⟩, c5⟩, c6⟩, c7⟩, c8⟩ := hok
  have hj : j < 357 := pBle c2
  obtain ⟨q9, hF, e1, e2, e3, e4⟩ := pCa_use c1
  unfold pCaF at hF
  rw [e3, e1, e2, e4] at hF
  have hle := pGo_m _ _ _ _ _ hrun
  have hle : pLe w w1 := hle
  intro H locs ls hA hl
  refine W_sz fun hu => ?_
  have hH := pAt_sz0 hsz hA hu
  have hM : pMet l D b cA j (.ref a :: as) w r w1 := pMet_of (sim nn) hj (Nat.le_trans hmx (pBle c8)) hrun
  have mh : (pY j).cls ≠ "java/lang/invoke/MethodHandle" ∧ (pY j).cls ≠ "java/lang/invoke/VarHandle" := by
    rw [(pMe_all j hj).2.2.2]
    exact pN_mh (pO j)
  have hf : w.length + (w1.length - w.length) ≤ room_1.cells ∧ pwsz w + (pwsz w1 - pwsz w) ≤ room_1.slots := by
    have g1 := hle.1
    have g2 := hle.2
    refine ⟨?_, ?_⟩
    · show _ ≤ 600000; omega
    · show _ ≤ 7302250; omega
  have cw : CallW room_1 s #[Value.ref bs] (pN 21) (pY j).cls idx (pY j) (pB j) (pX j) (pR j) (pWs j) (pRoom j (w1.length - w.length) (pwsz w1 - pwsz w)) (w1.length - w.length) (pwsz w1 - pwsz w) n :=
    ⟨callB_of n hts (lGoodIn j hj) rfl rfl rfl (hts _ (pMe_all j hj).2.1) (hts _ hF.1) ⟨mh.1, mh.2, c5⟩ ⟨pBle c3, pBle c4⟩, hts _ hF.2.1, hts _ hF.2.2⟩
  refine lcall_go (va_runV (As := as.map (pv b)) (b := b + a) (rest := rest.map (pv b)) (⟨hx, hb, hml, hown, hts⟩ : CallFix p m c code 4 s #[Value.ref bs] pG0 (pN 21)) hM cw ⟨pPre_blind D b cA w (.ref a :: as), lcls hK hA hw (pBeq c6) (pBle c7) hj, pPre_at (as := .ref a :: as) hA hH hK hN⟩ rfl (by simp [hn]) hl.1 rfl (lv_room (pCat_le hrest)) hd hf) hA hl hle k
theorem lcallI {pc idx j n e9 ci mx a : Nat} {fs rest : List Value} {lv : pLv} {w w1 : pW} (C : lCtx p s m c D b bs L cA xs) (hd : decode code pc = .ok (.invokespecial idx, 3)) (hok : lOK 3 idx j 0 e9 ci mx = true) (hw : w[a]? = some (.inr (ci, fs))) (hmx : 1 ≤ mx) (hrest : pCat rest ≤ 8)
    (hrun : pRun j [.ref a] w none w1) (h1 : w1.length ≤ 600000) (h2 : pwsz w1 ≤ 7302250) (k : lK p l e s m below meth c D b bs cA Q (pc + 3) lv (rest.map (pv b)) w1) : lK p l e s m below meth c D b bs cA Q pc lv (.ref (b + a) :: rest.map (pv b)) w := by
  obtain ⟨hx, hb, hml, hown, hts, hK, hN, hsz, hX, hbl⟩ := C
  obtain ⟨nn, hrun⟩ := hrun
  unfold lOK at hok
  simp only [Bool.and_eq_true, decide_eq_true_eq] at hok
  obtain ⟨⟨⟨⟨⟨⟨⟨c1, c2⟩, c3⟩, c4⟩, c5⟩, c6⟩, c7⟩, c8⟩ := hok
  have hj : j < 357 := pBle c2
  obtain ⟨q9, hF, e1, e2, e3, e4⟩ := pCa_use c1
  unfold pCaF at hF
  rw [e3, e1, e2, e4] at hF
  have hle : pLe w w1 := pGo_m _ _ _ _ _ hrun
  intro H locs ls hA hl
  refine W_sz fun hu => ?_
  have hH := pAt_sz0 hsz hA hu
  have hM : pMet l D b cA j [.ref a] w none w1 := pMet_of (sim nn) hj (Nat.le_trans hmx (pBle c8)) hrun
  have mh : (pY j).cls ≠ "java/lang/invoke/MethodHandle" ∧ (pY j).cls ≠ "java/lang/invoke/VarHandle" := by
    rw [(pMe_all j hj).2.2.2]
    exact pN_mh (pO j)
  have hf : w.length + (w1.length - w.length) ≤ room_1.cells ∧ pwsz w + (pwsz w1 - pwsz w) ≤ room_1.slots := by
    have g1 := hle.1
    have g2 := hle.2
    refine ⟨?_, ?_⟩
    · show _ ≤ 600000; omega
    · show _ ≤ 7302250; omega
  have hcb : CallB room_1 s #[Value.ref bs] (pN 21) idx (pY j) (pB j) (pX j) none (pWs j) (pRoom j (w1.length - w.length) (pwsz w1 - pwsz w)) (w1.length - w.length) (pwsz w1 - pwsz w) 0 :=
    callB_of (ws' := pG0) 0 hts (lGoodIn j hj) (by rw [← hF.2.2.2]; rfl) rfl rfl (hts _ (pMe_all j hj).2.1) (hts _ hF.1) ⟨mh.1, mh.2, c5⟩ ⟨pBle c3, pBle c4⟩
  exact lcall_go (va_runI (As := []) (b := b + a) (rest := rest.map (pv b)) (⟨hx, hb, hml, hown, hts⟩ : CallFix p m c code 4 s #[Value.ref bs] pG0 (pN 21)) hM ⟨hcb, hF.2.2.1, hts _ hF.2.1⟩ ⟨pPre_blind D b cA w [.ref a], pPre_at (as := [.ref a]) hA hH hK hN⟩ rfl rfl hl.1 rfl (lv_room (pCat_le hrest)) hd hf) hA hl hle k
/-- an argument: the script's int at k -/
theorem larg {pc k : Nat} {kk : Int} {lv : pLv} {st : List Value} {w : pW} (C : lCtx p s m c D b bs L cA xs) (h3 : (3, Value.int 0) ∈ lv) (hk : nI k = Int32.ofInt kk) (hkL : k < L) (hL : L ≤ 6)
    (d1 : decode code pc = .ok (.aload_n 0, 1)) (d2 : decode code (pc + 1) = .ok (.iload_n 3, 1)) (d3 : decode code (pc + 2) = .ok (.iconst kk, 1)) (d4 : decode code (pc + 3) = .ok (.iadd, 1)) (d5 : decode code (pc + 4) = .ok (.iaload, 1))
    (K : lK p l e s m below meth c D b bs cA Q (pc + 5) lv (.int (xs k) :: st) w) : lK p l e s m below meth c D b bs cA Q pc lv st w := by
  obtain ⟨hx, hb, hml, hown, hts, hK, hN, hsz, hX, hbl⟩ := C
  intro H locs ls hA hl
  refine lv_aload_n hx hb d1 rfl (lv_at hl 0 rfl) ?_
  refine lv_iload_n hx hb d2 (i := 3) (x := 0) rfl (hl.2.2 (3, .int 0) (List.mem_cons_of_mem _ h3)) ?_
  refine lv_iconst hx hb d3 rfl ?_
  refine lv_iadd hx hb d4 ?_
  rw [← hk, show (0 : Int32) + nI k = nI k by rw [← nI_0, nI_add, Nat.zero_add]]
  have hin : vp_in (nI k) L := vp_in_nI hkL (by omega)
  refine va_sld hx hb hX (by rw [hsz]; exact hbl) (by omega) hA.2 hin d5 ?_
  rw [nI_clamp (by omega)]
  exact K H locs ls hA hl
theorem lloadR {pc i a : Nat} {j : Fin 4} {lv : pLv} {st : List Value} {w : pW} (C : lCtx p s m c D b bs L cA xs) (hi : (j : Nat) = i) (h : (i, Value.ref a) ∈ lv) (hd : decode code pc = .ok (.aload_n j, 1)) (K : lK p l e s m below meth c D b bs cA Q (pc + 1) lv (.ref a :: st) w) : lK p l e s m below meth c D b bs cA Q pc lv st w := by
  intro H locs ls hA hl
  exact lv_aload_n C.1 C.2.1 hd hi (hl.2.2 (i, .ref a) (List.mem_cons_of_mem _ h)) (K H locs ls hA hl)
theorem lcmpI {pc : Nat} {off : Int} {lv : pLv} {x : Int32} {w : pW} (C : lCtx p s m c D b bs L cA xs) (hd : decode code pc = .ok (.if_icmp .eq off, 3)) (ht : (pc : Int) + off = (2022 : Nat)) (K : lK p l e s m below meth c D b bs cA Q 2022 lv [] w) : lK p l e s m below meth c D b bs cA Q pc lv [.int x, .int x] w := by
  intro H locs ls hA hl
  exact lv_icmp_eq C.1 C.2.1 hd ht (fun _ => K H locs ls hA hl) (fun h => absurd rfl h)
theorem lcmpL {pc : Nat} {off : Int} {lv : pLv} {x : Int64} {w : pW} (C : lCtx p s m c D b bs L cA xs) (hd : decode code pc = .ok (.lcmp, 1)) (hd2 : decode code (pc + 1) = .ok (.ifCond .eq off, 3)) (ht : ((pc + 1 : Nat) : Int) + off = (2022 : Nat)) (K : lK p l e s m below meth c D b bs cA Q 2022 lv [] w) : lK p l e s m below meth c D b bs cA Q pc lv [.long x, .long x] w := by
  intro H locs ls hA hl
  refine W.lcmp C.1 C.2.1 hd ?_
  have e1 : lg_cmp x x = 0 := by simp [lg_cmp]
  rw [e1]
  exact lv_if_eq C.1 C.2.1 hd2 ht (fun _ => K H locs ls hA hl) (fun h => absurd rfl h)
/-- what is owed of a call: both answer alike, from the worlds behind the starts -/
def lOwe (pA : Nat) (w0 : pW) (jx jm : Nat) (as : List Value) : Prop := ∃ (v : Value) (w1 w2 : pW), pRun jx (.ref 0 :: as) w0 (some v) w1 ∧ pRun jm (.ref pA :: as) w1 (some v) w2 ∧ w2.length ≤ 600000 ∧ pwsz w2 ≤ 7302250
def lOweI (pA : Nat) (w0 : pW) (jx jm : Nat) (as : List Value) : Prop := ∃ (v : Int32) (w1 w2 : pW), pRun jx (.ref 0 :: as) w0 (some (.int v)) w1 ∧ pRun jm (.ref pA :: as) w1 (some (.int v)) w2 ∧ w2.length ≤ 600000 ∧ pwsz w2 ≤ 7302250
def lOweL (pA : Nat) (w0 : pW) (jx jm : Nat) (as : List Value) : Prop := ∃ (v : Int64) (w1 w2 : pW), pRun jx (.ref 0 :: as) w0 (some (.long v)) w1 ∧ pRun jm (.ref pA :: as) w1 (some (.long v)) w2 ∧ w2.length ≤ 600000 ∧ pwsz w2 ≤ 7302250
/-- the locals in the loop -/
def lLv (b pA : Nat) : pLv := [(3, .int 0), (2, .ref (b + pA)), (1, .ref (b + 0))]
theorem lcase0i {pc ix jx ex im jm em pA : Nat} {off : Int} {w0 : pW} {f8 f9 : List Value} (C : lCtx p s m c D b bs L cA xs) (hL : L ≤ 6) (h6 : 6 ≤ L) (hw8 : w0[0]? = some (.inr (8, f8))) (hw9 : w0[pA]? = some (.inr (9, f9))) (okx : lOK 1 ix jx 0 ex 8 1 = true) (okm : lOK 1 im jm 0 em 9 1 = true)
    (d0 : decode code pc = .ok (.aload_n 1, 1)) (d1 : decode code (pc + 1) = .ok (.invokevirtual ix, 3)) (d4 : decode code (pc + 4) = .ok (.aload_n 2, 1)) (d5 : decode code (pc + 5) = .ok (.invokevirtual im, 3)) (d8 : decode code (pc + 8) = .ok (.if_icmp .eq off, 3)) (ht : ((pc + 8 : Nat) : Int) + off = (2022 : Nat))
    (owe : lOweI pA w0 jx jm []) (hK : ∀ w2, w2.length ≤ 600000 → pwsz w2 ≤ 7302250 → lK p l e s m below meth c D b bs cA Q 2022 (lLv b pA) [] w2) : lK p l e s m below meth c D b bs cA Q pc (lLv b pA) [] w0 := by
  obtain ⟨v, w1, w2, r1, r2, z1, z2⟩ := owe
  have K := hK w2 z1 z2
  have g2 : pLe w1 w2 := by
    obtain ⟨n2, r2⟩ := r2
    exact pGo_m _ _ _ _ _ r2
  have hw9' : ∃ f, w1[pA]? = some (.inr (9, f)) := by
    obtain ⟨n1, r1⟩ := r1
    exact pGo_p _ _ _ _ _ r1 pA 9 f9 hw9
  obtain ⟨f9', hw9'⟩ := hw9'
  unfold lLv at K ⊢
  refine lloadR C rfl (List.mem_cons_of_mem _ (List.mem_cons_of_mem _ List.mem_cons_self)) d0 ?_
  refine lcallV (pc := pc + 1) (as := []) (rest := []) (r := some (.int v)) C d1 okx hw8 rfl (Nat.le_of_ble_eq_true rfl) (Nat.le_of_ble_eq_true rfl) r1 (Nat.le_trans g2.1 z1) (Nat.le_trans g2.2 z2) ?_
  refine lloadR (pc := pc + 4) C rfl (List.mem_cons_of_mem _ List.mem_cons_self) d4 ?_

  refine lcallV (pc := pc + 5) (as := []) (rest := [.int v]) (r := some (.int v)) C d5 okm hw9' rfl (Nat.le_of_ble_eq_true rfl) (Nat.le_of_ble_eq_true rfl) r2 z1 z2 ?_
  exact lcmpI (pc := pc + 8) (x := v) C d8 ht K
theorem lcase0l {pc ix jx ex im jm em pA : Nat} {off : Int} {w0 : pW} {f8 f9 : List Value} (C : lCtx p s m c D b bs L cA xs) (hL : L ≤ 6) (h6 : 6 ≤ L) (hw8 : w0[0]? = some (.inr (8, f8))) (hw9 : w0[pA]? = some (.inr (9, f9))) (okx : lOK 1 ix jx 0 ex 8 1 = true) (okm : lOK 1 im jm 0 em 9 1 = true)
    (d0 : decode code pc = .ok (.aload_n 1, 1)) (d1 : decode code (pc + 1) = .ok (.invokevirtual ix, 3)) (d4 : decode code (pc + 4) = .ok (.aload_n 2, 1)) (d5 : decode code (pc + 5) = .ok (.invokevirtual im, 3)) (d8 : decode code (pc + 8) = .ok (.lcmp, 1)) (d9 : decode code (pc + 9) = .ok (.ifCond .eq off, 3)) (ht : ((pc + 8 + 1 : Nat) : Int) + off = (2022 : Nat))
    (owe : lOweL pA w0 jx jm []) (hK : ∀ w2, w2.length ≤ 600000 → pwsz w2 ≤ 7302250 → lK p l e s m below meth c D b bs cA Q 2022 (lLv b pA) [] w2) : lK p l e s m below meth c D b bs cA Q pc (lLv b pA) [] w0 := by
  obtain ⟨v, w1, w2, r1, r2, z1, z2⟩ := owe
  have K := hK w2 z1 z2
  have g2 : pLe w1 w2 := by
    obtain ⟨n2, r2⟩ := r2
    exact pGo_m _ _ _ _ _ r2
  have hw9' : ∃ f, w1[pA]? = some (.inr (9, f)) := by
    obtain ⟨n1, r1⟩ := r1
    exact pGo_p _ _ _ _ _ r1 pA 9 f9 hw9
  obtain ⟨f9', hw9'⟩ := hw9'
  unfold lLv at K ⊢
  refine lloadR C rfl (List.mem_cons_of_mem _ (List.mem_cons_of_mem _ List.mem_cons_self)) d0 ?_
  refine lcallV (pc := pc + 1) (as := []) (rest := []) (r := some (.long v)) C d1 okx hw8 rfl (Nat.le_of_ble_eq_true rfl) (Nat.le_of_ble_eq_true rfl) r1 (Nat.le_trans g2.1 z1) (Nat.le_trans g2.2 z2) ?_
  refine lloadR (pc := pc + 4) C rfl (List.mem_cons_of_mem _ List.mem_cons_self) d4 ?_

  refine lcallV (pc := pc + 5) (as := []) (rest := [.long v]) (r := some (.long v)) C d5 okm hw9' rfl (Nat.le_of_ble_eq_true rfl) (Nat.le_of_ble_eq_true rfl) r2 z1 z2 ?_
  exact lcmpL (pc := pc + 8) (x := v) C d8 d9 ht K
theorem lcase1i {pc ix jx ex im jm em pA : Nat} {off : Int} {w0 : pW} {f8 f9 : List Value} (C : lCtx p s m c D b bs L cA xs) (hL : L ≤ 6) (h6 : 6 ≤ L) (hw8 : w0[0]? = some (.inr (8, f8))) (hw9 : w0[pA]? = some (.inr (9, f9))) (okx : lOK 1 ix jx 1 ex 8 2 = true) (okm : lOK 1 im jm 1 em 9 2 = true)
    (d0 : decode code pc = .ok (.aload_n 1, 1)) (d1 : decode code (pc + 1) = .ok (.aload_n 0, 1)) (d2 : decode code (pc + 2) = .ok (.iload_n 3, 1)) (d3 : decode code (pc + 3) = .ok (.iconst 1, 1)) (d4 : decode code (pc + 4) = .ok (.iadd, 1)) (d5 : decode code (pc + 5) = .ok (.iaload, 1)) (d6 : decode code (pc + 6) = .ok (.invokevirtual ix, 3)) (d9 : decode code (pc + 9) = .ok (.aload_n 2, 1)) (d10 : decode code (pc + 10) = .ok (.aload_n 0, 1)) (d11 : decode code (pc + 11) = .ok (.iload_n 3, 1)) (d12 : decode code (pc + 12) = .ok (.iconst 1, 1)) (d13 : decode code (pc + 13) = .ok (.iadd, 1)) (d14 : decode code (pc + 14) = .ok (.iaload, 1)) (d15 : decode code (pc + 15) = .ok (.invokevirtual im, 3)) (d18 : decode code (pc + 18) = .ok (.if_icmp .eq off, 3)) (ht : ((pc + 18 : Nat) : Int) + off = (2022 : Nat))
    (owe : lOweI pA w0 jx jm [.int (xs 1)]) (hK : ∀ w2, w2.length ≤ 600000 → pwsz w2 ≤ 7302250 → lK p l e s m below meth c D b bs cA Q 2022 (lLv b pA) [] w2) : lK p l e s m below meth c D b bs cA Q pc (lLv b pA) [] w0 := by
  obtain ⟨v, w1, w2, r1, r2, z1, z2⟩ := owe
  have K := hK w2 z1 z2
  have g2 : pLe w1 w2 := by
    obtain ⟨n2, r2⟩ := r2
    exact pGo_m _ _ _ _ _ r2
  have hw9' : ∃ f, w1[pA]? = some (.inr (9, f)) := by
    obtain ⟨n1, r1⟩ := r1
    exact pGo_p _ _ _ _ _ r1 pA 9 f9 hw9
  obtain ⟨f9', hw9'⟩ := hw9'
  unfold lLv at K ⊢
  refine lloadR C rfl (List.mem_cons_of_mem _ (List.mem_cons_of_mem _ List.mem_cons_self)) d0 ?_
  refine larg (pc := pc + 1) (k := 1) C List.mem_cons_self rfl (by omega) hL d1 d2 d3 d4 d5 ?_
  refine lcallV (pc := pc + 6) (as := [.int (xs 1)]) (rest := []) (r := some (.int v)) C d6 okx hw8 rfl (Nat.le_of_ble_eq_true rfl) (Nat.le_of_ble_eq_true rfl) r1 (Nat.le_trans g2.1 z1) (Nat.le_trans g2.2 z2) ?_
  refine lloadR (pc := pc + 9) C rfl (List.mem_cons_of_mem _ List.mem_cons_self) d9 ?_
  refine larg (pc := pc + 10) (k := 1) C List.mem_cons_self rfl (by omega) hL d10 d11 d12 d13 d14 ?_
  refine lcallV (pc := pc + 15) (as := [.int (xs 1)]) (rest := [.int v]) (r := some (.int v)) C d15 okm hw9' rfl (Nat.le_of_ble_eq_true rfl) (Nat.le_of_ble_eq_true rfl) r2 z1 z2 ?_
  exact lcmpI (pc := pc + 18) (x := v) C d18 ht K
theorem lcase1l {pc ix jx ex im jm em pA : Nat} {off : Int} {w0 : pW} {f8 f9 : List Value} (C : lCtx p s m c D b bs L cA xs) (hL : L ≤ 6) (h6 : 6 ≤ L) (hw8 : w0[0]? = some (.inr (8, f8))) (hw9 : w0[pA]? = some (.inr (9, f9))) (okx : lOK 1 ix jx 1 ex 8 2 = true) (okm : lOK 1 im jm 1 em 9 2 = true)
    (d0 : decode code pc = .ok (.aload_n 1, 1)) (d1 : decode code (pc + 1) = .ok (.aload_n 0, 1)) (d2 : decode code (pc + 2) = .ok (.iload_n 3, 1)) (d3 : decode code (pc + 3) = .ok (.iconst 1, 1)) (d4 : decode code (pc + 4) = .ok (.iadd, 1)) (d5 : decode code (pc + 5) = .ok (.iaload, 1)) (d6 : decode code (pc + 6) = .ok (.invokevirtual ix, 3)) (d9 : decode code (pc + 9) = .ok (.aload_n 2, 1)) (d10 : decode code (pc + 10) = .ok (.aload_n 0, 1)) (d11 : decode code (pc + 11) = .ok (.iload_n 3, 1)) (d12 : decode code (pc + 12) = .ok (.iconst 1, 1)) (d13 : decode code (pc + 13) = .ok (.iadd, 1)) (d14 : decode code (pc + 14) = .ok (.iaload, 1)) (d15 : decode code (pc + 15) = .ok (.invokevirtual im, 3)) (d18 : decode code (pc + 18) = .ok (.lcmp, 1)) (d19 : decode code (pc + 19) = .ok (.ifCond .eq off, 3)) (ht : ((pc + 18 + 1 : Nat) : Int) + off = (2022 : Nat))
    (owe : lOweL pA w0 jx jm [.int (xs 1)]) (hK : ∀ w2, w2.length ≤ 600000 → pwsz w2 ≤ 7302250 → lK p l e s m below meth c D b bs cA Q 2022 (lLv b pA) [] w2) : lK p l e s m below meth c D b bs cA Q pc (lLv b pA) [] w0 := by
  obtain ⟨v, w1, w2, r1, r2, z1, z2⟩ := owe
  have K := hK w2 z1 z2
  have g2 : pLe w1 w2 := by
    obtain ⟨n2, r2⟩ := r2
    exact pGo_m _ _ _ _ _ r2
  have hw9' : ∃ f, w1[pA]? = some (.inr (9, f)) := by
    obtain ⟨n1, r1⟩ := r1
    exact pGo_p _ _ _ _ _ r1 pA 9 f9 hw9
  obtain ⟨f9', hw9'⟩ := hw9'
  unfold lLv at K ⊢
  refine lloadR C rfl (List.mem_cons_of_mem _ (List.mem_cons_of_mem _ List.mem_cons_self)) d0 ?_
  refine larg (pc := pc + 1) (k := 1) C List.mem_cons_self rfl (by omega) hL d1 d2 d3 d4 d5 ?_
  refine lcallV (pc := pc + 6) (as := [.int (xs 1)]) (rest := []) (r := some (.long v)) C d6 okx hw8 rfl (Nat.le_of_ble_eq_true rfl) (Nat.le_of_ble_eq_true rfl) r1 (Nat.le_trans g2.1 z1) (Nat.le_trans g2.2 z2) ?_
  refine lloadR (pc := pc + 9) C rfl (List.mem_cons_of_mem _ List.mem_cons_self) d9 ?_
  refine larg (pc := pc + 10) (k := 1) C List.mem_cons_self rfl (by omega) hL d10 d11 d12 d13 d14 ?_
  refine lcallV (pc := pc + 15) (as := [.int (xs 1)]) (rest := [.long v]) (r := some (.long v)) C d15 okm hw9' rfl (Nat.le_of_ble_eq_true rfl) (Nat.le_of_ble_eq_true rfl) r2 z1 z2 ?_
  exact lcmpL (pc := pc + 18) (x := v) C d18 d19 ht K
theorem lcase2i {pc ix jx ex im jm em pA : Nat} {off : Int} {w0 : pW} {f8 f9 : List Value} (C : lCtx p s m c D b bs L cA xs) (hL : L ≤ 6) (h6 : 6 ≤ L) (hw8 : w0[0]? = some (.inr (8, f8))) (hw9 : w0[pA]? = some (.inr (9, f9))) (okx : lOK 1 ix jx 2 ex 8 3 = true) (okm : lOK 1 im jm 2 em 9 3 = true)
    (d0 : decode code pc = .ok (.aload_n 1, 1)) (d1 : decode code (pc + 1) = .ok (.aload_n 0, 1)) (d2 : decode code (pc + 2) = .ok (.iload_n 3, 1)) (d3 : decode code (pc + 3) = .ok (.iconst 1, 1)) (d4 : decode code (pc + 4) = .ok (.iadd, 1)) (d5 : decode code (pc + 5) = .ok (.iaload, 1)) (d6 : decode code (pc + 6) = .ok (.aload_n 0, 1)) (d7 : decode code (pc + 7) = .ok (.iload_n 3, 1)) (d8 : decode code (pc + 8) = .ok (.iconst 2, 1)) (d9 : decode code (pc + 9) = .ok (.iadd, 1)) (d10 : decode code (pc + 10) = .ok (.iaload, 1)) (d11 : decode code (pc + 11) = .ok (.invokevirtual ix, 3)) (d14 : decode code (pc + 14) = .ok (.aload_n 2, 1)) (d15 : decode code (pc + 15) = .ok (.aload_n 0, 1)) (d16 : decode code (pc + 16) = .ok (.iload_n 3, 1)) (d17 : decode code (pc + 17) = .ok (.iconst 1, 1)) (d18 : decode code (pc + 18) = .ok (.iadd, 1)) (d19 : decode code (pc + 19) = .ok (.iaload, 1)) (d20 : decode code (pc + 20) = .ok (.aload_n 0, 1)) (d21 : decode code (pc + 21) = .ok (.iload_n 3, 1)) (d22 : decode code (pc + 22) = .ok (.iconst 2, 1)) (d23 : decode code (pc + 23) = .ok (.iadd, 1)) (d24 : decode code (pc + 24) = .ok (.iaload, 1)) (d25 : decode code (pc + 25) = .ok (.invokevirtual im, 3)) (d28 : decode code (pc + 28) = .ok (.if_icmp .eq off, 3)) (ht : ((pc + 28 : Nat) : Int) + off = (2022 : Nat))
    (owe : lOweI pA w0 jx jm [.int (xs 1), .int (xs 2)]) (hK : ∀ w2, w2.length ≤ 600000 → pwsz w2 ≤ 7302250 → lK p l e s m below meth c D b bs cA Q 2022 (lLv b pA) [] w2) : lK p l e s m below meth c D b bs cA Q pc (lLv b pA) [] w0 := by
  obtain ⟨v, w1, w2, r1, r2, z1, z2⟩ := owe
  have K := hK w2 z1 z2
  have g2 : pLe w1 w2 := by
    obtain ⟨n2, r2⟩ := r2
    exact pGo_m _ _ _ _ _ r2
  have hw9' : ∃ f, w1[pA]? = some (.inr (9, f)) := by
    obtain ⟨n1, r1⟩ := r1
    exact pGo_p _ _ _ _ _ r1 pA 9 f9 hw9
  obtain ⟨f9', hw9'⟩ := hw9'
  unfold lLv at K ⊢
  refine lloadR C rfl (List.mem_cons_of_mem _ (List.mem_cons_of_mem _ List.mem_cons_self)) d0 ?_
  refine larg (pc := pc + 1) (k := 1) C List.mem_cons_self rfl (by omega) hL d1 d2 d3 d4 d5 ?_
  refine larg (pc := pc + 6) (k := 2) C List.mem_cons_self rfl (by omega) hL d6 d7 d8 d9 d10 ?_
  refine lcallV (pc := pc + 11) (as := [.int (xs 1), .int (xs 2)]) (rest := []) (r := some (.int v)) C d11 okx hw8 rfl (Nat.le_of_ble_eq_true rfl) (Nat.le_of_ble_eq_true rfl) r1 (Nat.le_trans g2.1 z1) (Nat.le_trans g2.2 z2) ?_
  refine lloadR (pc := pc + 14) C rfl (List.mem_cons_of_mem _ List.mem_cons_self) d14 ?_
  refine larg (pc := pc + 15) (k := 1) C List.mem_cons_self rfl (by omega) hL d15 d16 d17 d18 d19 ?_
  refine larg (pc := pc + 20) (k := 2) C List.mem_cons_self rfl (by omega) hL d20 d21 d22 d23 d24 ?_
  refine lcallV (pc := pc + 25) (as := [.int (xs 1), .int (xs 2)]) (rest := [.int v]) (r := some (.int v)) C d25 okm hw9' rfl (Nat.le_of_ble_eq_true rfl) (Nat.le_of_ble_eq_true rfl) r2 z1 z2 ?_
  exact lcmpI (pc := pc + 28) (x := v) C d28 ht K
theorem lcase2l {pc ix jx ex im jm em pA : Nat} {off : Int} {w0 : pW} {f8 f9 : List Value} (C : lCtx p s m c D b bs L cA xs) (hL : L ≤ 6) (h6 : 6 ≤ L) (hw8 : w0[0]? = some (.inr (8, f8))) (hw9 : w0[pA]? = some (.inr (9, f9))) (okx : lOK 1 ix jx 2 ex 8 3 = true) (okm : lOK 1 im jm 2 em 9 3 = true)
    (d0 : decode code pc = .ok (.aload_n 1, 1)) (d1 : decode code (pc + 1) = .ok (.aload_n 0, 1)) (d2 : decode code (pc + 2) = .ok (.iload_n 3, 1)) (d3 : decode code (pc + 3) = .ok (.iconst 1, 1)) (d4 : decode code (pc + 4) = .ok (.iadd, 1)) (d5 : decode code (pc + 5) = .ok (.iaload, 1)) (d6 : decode code (pc + 6) = .ok (.aload_n 0, 1)) (d7 : decode code (pc + 7) = .ok (.iload_n 3, 1)) (d8 : decode code (pc + 8) = .ok (.iconst 2, 1)) (d9 : decode code (pc + 9) = .ok (.iadd, 1)) (d10 : decode code (pc + 10) = .ok (.iaload, 1)) (d11 : decode code (pc + 11) = .ok (.invokevirtual ix, 3)) (d14 : decode code (pc + 14) = .ok (.aload_n 2, 1)) (d15 : decode code (pc + 15) = .ok (.aload_n 0, 1)) (d16 : decode code (pc + 16) = .ok (.iload_n 3, 1)) (d17 : decode code (pc + 17) = .ok (.iconst 1, 1)) (d18 : decode code (pc + 18) = .ok (.iadd, 1)) (d19 : decode code (pc + 19) = .ok (.iaload, 1)) (d20 : decode code (pc + 20) = .ok (.aload_n 0, 1)) (d21 : decode code (pc + 21) = .ok (.iload_n 3, 1)) (d22 : decode code (pc + 22) = .ok (.iconst 2, 1)) (d23 : decode code (pc + 23) = .ok (.iadd, 1)) (d24 : decode code (pc + 24) = .ok (.iaload, 1)) (d25 : decode code (pc + 25) = .ok (.invokevirtual im, 3)) (d28 : decode code (pc + 28) = .ok (.lcmp, 1)) (d29 : decode code (pc + 29) = .ok (.ifCond .eq off, 3)) (ht : ((pc + 28 + 1 : Nat) : Int) + off = (2022 : Nat))
    (owe : lOweL pA w0 jx jm [.int (xs 1), .int (xs 2)]) (hK : ∀ w2, w2.length ≤ 600000 → pwsz w2 ≤ 7302250 → lK p l e s m below meth c D b bs cA Q 2022 (lLv b pA) [] w2) : lK p l e s m below meth c D b bs cA Q pc (lLv b pA) [] w0 := by
  obtain ⟨v, w1, w2, r1, r2, z1, z2⟩ := owe
  have K := hK w2 z1 z2
  have g2 : pLe w1 w2 := by
    obtain ⟨n2, r2⟩ := r2
    exact pGo_m _ _ _ _ _ r2
  have hw9' : ∃ f, w1[pA]? = some (.inr (9, f)) := by
    obtain ⟨n1, r1⟩ := r1
    exact pGo_p _ _ _ _ _ r1 pA 9 f9 hw9
  obtain ⟨f9', hw9'⟩ := hw9'
  unfold lLv at K ⊢
  refine lloadR C rfl (List.mem_cons_of_mem _ (List.mem_cons_of_mem _ List.mem_cons_self)) d0 ?_
  refine larg (pc := pc + 1) (k := 1) C List.mem_cons_self rfl (by omega) hL d1 d2 d3 d4 d5 ?_
  refine larg (pc := pc + 6) (k := 2) C List.mem_cons_self rfl (by omega) hL d6 d7 d8 d9 d10 ?_
  refine lcallV (pc := pc + 11) (as := [.int (xs 1), .int (xs 2)]) (rest := []) (r := some (.long v)) C d11 okx hw8 rfl (Nat.le_of_ble_eq_true rfl) (Nat.le_of_ble_eq_true rfl) r1 (Nat.le_trans g2.1 z1) (Nat.le_trans g2.2 z2) ?_
  refine lloadR (pc := pc + 14) C rfl (List.mem_cons_of_mem _ List.mem_cons_self) d14 ?_
  refine larg (pc := pc + 15) (k := 1) C List.mem_cons_self rfl (by omega) hL d15 d16 d17 d18 d19 ?_
  refine larg (pc := pc + 20) (k := 2) C List.mem_cons_self rfl (by omega) hL d20 d21 d22 d23 d24 ?_
  refine lcallV (pc := pc + 25) (as := [.int (xs 1), .int (xs 2)]) (rest := [.long v]) (r := some (.long v)) C d25 okm hw9' rfl (Nat.le_of_ble_eq_true rfl) (Nat.le_of_ble_eq_true rfl) r2 z1 z2 ?_
  exact lcmpL (pc := pc + 28) (x := v) C d28 d29 ht K
theorem lcase3i {pc ix jx ex im jm em pA : Nat} {off : Int} {w0 : pW} {f8 f9 : List Value} (C : lCtx p s m c D b bs L cA xs) (hL : L ≤ 6) (h6 : 6 ≤ L) (hw8 : w0[0]? = some (.inr (8, f8))) (hw9 : w0[pA]? = some (.inr (9, f9))) (okx : lOK 1 ix jx 3 ex 8 4 = true) (okm : lOK 1 im jm 3 em 9 4 = true)
    (d0 : decode code pc = .ok (.aload_n 1, 1)) (d1 : decode code (pc + 1) = .ok (.aload_n 0, 1)) (d2 : decode code (pc + 2) = .ok (.iload_n 3, 1)) (d3 : decode code (pc + 3) = .ok (.iconst 1, 1)) (d4 : decode code (pc + 4) = .ok (.iadd, 1)) (d5 : decode code (pc + 5) = .ok (.iaload, 1)) (d6 : decode code (pc + 6) = .ok (.aload_n 0, 1)) (d7 : decode code (pc + 7) = .ok (.iload_n 3, 1)) (d8 : decode code (pc + 8) = .ok (.iconst 2, 1)) (d9 : decode code (pc + 9) = .ok (.iadd, 1)) (d10 : decode code (pc + 10) = .ok (.iaload, 1)) (d11 : decode code (pc + 11) = .ok (.aload_n 0, 1)) (d12 : decode code (pc + 12) = .ok (.iload_n 3, 1)) (d13 : decode code (pc + 13) = .ok (.iconst 3, 1)) (d14 : decode code (pc + 14) = .ok (.iadd, 1)) (d15 : decode code (pc + 15) = .ok (.iaload, 1)) (d16 : decode code (pc + 16) = .ok (.invokevirtual ix, 3)) (d19 : decode code (pc + 19) = .ok (.aload_n 2, 1)) (d20 : decode code (pc + 20) = .ok (.aload_n 0, 1)) (d21 : decode code (pc + 21) = .ok (.iload_n 3, 1)) (d22 : decode code (pc + 22) = .ok (.iconst 1, 1)) (d23 : decode code (pc + 23) = .ok (.iadd, 1)) (d24 : decode code (pc + 24) = .ok (.iaload, 1)) (d25 : decode code (pc + 25) = .ok (.aload_n 0, 1)) (d26 : decode code (pc + 26) = .ok (.iload_n 3, 1)) (d27 : decode code (pc + 27) = .ok (.iconst 2, 1)) (d28 : decode code (pc + 28) = .ok (.iadd, 1)) (d29 : decode code (pc + 29) = .ok (.iaload, 1)) (d30 : decode code (pc + 30) = .ok (.aload_n 0, 1)) (d31 : decode code (pc + 31) = .ok (.iload_n 3, 1)) (d32 : decode code (pc + 32) = .ok (.iconst 3, 1)) (d33 : decode code (pc + 33) = .ok (.iadd, 1)) (d34 : decode code (pc + 34) = .ok (.iaload, 1)) (d35 : decode code (pc + 35) = .ok (.invokevirtual im, 3)) (d38 : decode code (pc + 38) = .ok (.if_icmp .eq off, 3)) (ht : ((pc + 38 : Nat) : Int) + off = (2022 : Nat))
    (owe : lOweI pA w0 jx jm [.int (xs 1), .int (xs 2), .int (xs 3)]) (hK : ∀ w2, w2.length ≤ 600000 → pwsz w2 ≤ 7302250 → lK p l e s m below meth c D b bs cA Q 2022 (lLv b pA) [] w2) : lK p l e s m below meth c D b bs cA Q pc (lLv b pA) [] w0 := by
  obtain ⟨v, w1, w2, r1, r2, z1, z2⟩ := owe
  have K := hK w2 z1 z2
  have g2 : pLe w1 w2 := by
    obtain ⟨n2, r2⟩ := r2
    exact pGo_m _ _ _ _ _ r2
  have hw9' : ∃ f, w1[pA]? = some (.inr (9, f)) := by
    obtain ⟨n1, r1⟩ := r1
    exact pGo_p _ _ _ _ _ r1 pA 9 f9 hw9
  obtain ⟨f9', hw9'⟩ := hw9'
  unfold lLv at K ⊢
  refine lloadR C rfl (List.mem_cons_of_mem _ (List.mem_cons_of_mem _ List.mem_cons_self)) d0 ?_
  refine larg (pc := pc + 1) (k := 1) C List.mem_cons_self rfl (by omega) hL d1 d2 d3 d4 d5 ?_
  refine larg (pc := pc + 6) (k := 2) C List.mem_cons_self rfl (by omega) hL d6 d7 d8 d9 d10 ?_
  refine larg (pc := pc + 11) (k := 3) C List.mem_cons_self rfl (by omega) hL d11 d12 d13 d14 d15 ?_
  refine lcallV (pc := pc + 16) (as := [.int (xs 1), .int (xs 2), .int (xs 3)]) (rest := []) (r := some (.int v)) C d16 okx hw8 rfl (Nat.le_of_ble_eq_true rfl) (Nat.le_of_ble_eq_true rfl) r1 (Nat.le_trans g2.1 z1) (Nat.le_trans g2.2 z2) ?_
  refine lloadR (pc := pc + 19) C rfl (List.mem_cons_of_mem _ List.mem_cons_self) d19 ?_
  refine larg (pc := pc + 20) (k := 1) C List.mem_cons_self rfl (by omega) hL d20 d21 d22 d23 d24 ?_
  refine larg (pc := pc + 25) (k := 2) C List.mem_cons_self rfl (by omega) hL d25 d26 d27 d28 d29 ?_
  refine larg (pc := pc + 30) (k := 3) C List.mem_cons_self rfl (by omega) hL d30 d31 d32 d33 d34 ?_
  refine lcallV (pc := pc + 35) (as := [.int (xs 1), .int (xs 2), .int (xs 3)]) (rest := [.int v]) (r := some (.int v)) C d35 okm hw9' rfl (Nat.le_of_ble_eq_true rfl) (Nat.le_of_ble_eq_true rfl) r2 z1 z2 ?_
  exact lcmpI (pc := pc + 38) (x := v) C d38 ht K
theorem lcase4i {pc ix jx ex im jm em pA : Nat} {off : Int} {w0 : pW} {f8 f9 : List Value} (C : lCtx p s m c D b bs L cA xs) (hL : L ≤ 6) (h6 : 6 ≤ L) (hw8 : w0[0]? = some (.inr (8, f8))) (hw9 : w0[pA]? = some (.inr (9, f9))) (okx : lOK 1 ix jx 4 ex 8 5 = true) (okm : lOK 1 im jm 4 em 9 5 = true)
    (d0 : decode code pc = .ok (.aload_n 1, 1)) (d1 : decode code (pc + 1) = .ok (.aload_n 0, 1)) (d2 : decode code (pc + 2) = .ok (.iload_n 3, 1)) (d3 : decode code (pc + 3) = .ok (.iconst 1, 1)) (d4 : decode code (pc + 4) = .ok (.iadd, 1)) (d5 : decode code (pc + 5) = .ok (.iaload, 1)) (d6 : decode code (pc + 6) = .ok (.aload_n 0, 1)) (d7 : decode code (pc + 7) = .ok (.iload_n 3, 1)) (d8 : decode code (pc + 8) = .ok (.iconst 2, 1)) (d9 : decode code (pc + 9) = .ok (.iadd, 1)) (d10 : decode code (pc + 10) = .ok (.iaload, 1)) (d11 : decode code (pc + 11) = .ok (.aload_n 0, 1)) (d12 : decode code (pc + 12) = .ok (.iload_n 3, 1)) (d13 : decode code (pc + 13) = .ok (.iconst 3, 1)) (d14 : decode code (pc + 14) = .ok (.iadd, 1)) (d15 : decode code (pc + 15) = .ok (.iaload, 1)) (d16 : decode code (pc + 16) = .ok (.aload_n 0, 1)) (d17 : decode code (pc + 17) = .ok (.iload_n 3, 1)) (d18 : decode code (pc + 18) = .ok (.iconst 4, 1)) (d19 : decode code (pc + 19) = .ok (.iadd, 1)) (d20 : decode code (pc + 20) = .ok (.iaload, 1)) (d21 : decode code (pc + 21) = .ok (.invokevirtual ix, 3)) (d24 : decode code (pc + 24) = .ok (.aload_n 2, 1)) (d25 : decode code (pc + 25) = .ok (.aload_n 0, 1)) (d26 : decode code (pc + 26) = .ok (.iload_n 3, 1)) (d27 : decode code (pc + 27) = .ok (.iconst 1, 1)) (d28 : decode code (pc + 28) = .ok (.iadd, 1)) (d29 : decode code (pc + 29) = .ok (.iaload, 1)) (d30 : decode code (pc + 30) = .ok (.aload_n 0, 1)) (d31 : decode code (pc + 31) = .ok (.iload_n 3, 1)) (d32 : decode code (pc + 32) = .ok (.iconst 2, 1)) (d33 : decode code (pc + 33) = .ok (.iadd, 1)) (d34 : decode code (pc + 34) = .ok (.iaload, 1)) (d35 : decode code (pc + 35) = .ok (.aload_n 0, 1)) (d36 : decode code (pc + 36) = .ok (.iload_n 3, 1)) (d37 : decode code (pc + 37) = .ok (.iconst 3, 1)) (d38 : decode code (pc + 38) = .ok (.iadd, 1)) (d39 : decode code (pc + 39) = .ok (.iaload, 1)) (d40 : decode code (pc + 40) = .ok (.aload_n 0, 1)) (d41 : decode code (pc + 41) = .ok (.iload_n 3, 1)) (d42 : decode code (pc + 42) = .ok (.iconst 4, 1)) (d43 : decode code (pc + 43) = .ok (.iadd, 1)) (d44 : decode code (pc + 44) = .ok (.iaload, 1)) (d45 : decode code (pc + 45) = .ok (.invokevirtual im, 3)) (d48 : decode code (pc + 48) = .ok (.if_icmp .eq off, 3)) (ht : ((pc + 48 : Nat) : Int) + off = (2022 : Nat))
    (owe : lOweI pA w0 jx jm [.int (xs 1), .int (xs 2), .int (xs 3), .int (xs 4)]) (hK : ∀ w2, w2.length ≤ 600000 → pwsz w2 ≤ 7302250 → lK p l e s m below meth c D b bs cA Q 2022 (lLv b pA) [] w2) : lK p l e s m below meth c D b bs cA Q pc (lLv b pA) [] w0 := by
  obtain ⟨v, w1, w2, r1, r2, z1, z2⟩ := owe
  have K := hK w2 z1 z2
  have g2 : pLe w1 w2 := by
    obtain ⟨n2, r2⟩ := r2
    exact pGo_m _ _ _ _ _ r2
  have hw9' : ∃ f, w1[pA]? = some (.inr (9, f)) := by
    obtain ⟨n1, r1⟩ := r1
    exact pGo_p _ _ _ _ _ r1 pA 9 f9 hw9
  obtain ⟨f9', hw9'⟩ := hw9'
  unfold lLv at K ⊢
  refine lloadR C rfl (List.mem_cons_of_mem _ (List.mem_cons_of_mem _ List.mem_cons_self)) d0 ?_
  refine larg (pc := pc + 1) (k := 1) C List.mem_cons_self rfl (by omega) hL d1 d2 d3 d4 d5 ?_
  refine larg (pc := pc + 6) (k := 2) C List.mem_cons_self rfl (by omega) hL d6 d7 d8 d9 d10 ?_
  refine larg (pc := pc + 11) (k := 3) C List.mem_cons_self rfl (by omega) hL d11 d12 d13 d14 d15 ?_
  refine larg (pc := pc + 16) (k := 4) C List.mem_cons_self rfl (by omega) hL d16 d17 d18 d19 d20 ?_
  refine lcallV (pc := pc + 21) (as := [.int (xs 1), .int (xs 2), .int (xs 3), .int (xs 4)]) (rest := []) (r := some (.int v)) C d21 okx hw8 rfl (Nat.le_of_ble_eq_true rfl) (Nat.le_of_ble_eq_true rfl) r1 (Nat.le_trans g2.1 z1) (Nat.le_trans g2.2 z2) ?_
  refine lloadR (pc := pc + 24) C rfl (List.mem_cons_of_mem _ List.mem_cons_self) d24 ?_
  refine larg (pc := pc + 25) (k := 1) C List.mem_cons_self rfl (by omega) hL d25 d26 d27 d28 d29 ?_
  refine larg (pc := pc + 30) (k := 2) C List.mem_cons_self rfl (by omega) hL d30 d31 d32 d33 d34 ?_
  refine larg (pc := pc + 35) (k := 3) C List.mem_cons_self rfl (by omega) hL d35 d36 d37 d38 d39 ?_
  refine larg (pc := pc + 40) (k := 4) C List.mem_cons_self rfl (by omega) hL d40 d41 d42 d43 d44 ?_
  refine lcallV (pc := pc + 45) (as := [.int (xs 1), .int (xs 2), .int (xs 3), .int (xs 4)]) (rest := [.int v]) (r := some (.int v)) C d45 okm hw9' rfl (Nat.le_of_ble_eq_true rfl) (Nat.le_of_ble_eq_true rfl) r2 z1 z2 ?_
  exact lcmpI (pc := pc + 48) (x := v) C d48 ht K
theorem lcase5i {pc ix jx ex im jm em pA : Nat} {off : Int} {w0 : pW} {f8 f9 : List Value} (C : lCtx p s m c D b bs L cA xs) (hL : L ≤ 6) (h6 : 6 ≤ L) (hw8 : w0[0]? = some (.inr (8, f8))) (hw9 : w0[pA]? = some (.inr (9, f9))) (okx : lOK 1 ix jx 5 ex 8 6 = true) (okm : lOK 1 im jm 5 em 9 6 = true)
    (d0 : decode code pc = .ok (.aload_n 1, 1)) (d1 : decode code (pc + 1) = .ok (.aload_n 0, 1)) (d2 : decode code (pc + 2) = .ok (.iload_n 3, 1)) (d3 : decode code (pc + 3) = .ok (.iconst 1, 1)) (d4 : decode code (pc + 4) = .ok (.iadd, 1)) (d5 : decode code (pc + 5) = .ok (.iaload, 1)) (d6 : decode code (pc + 6) = .ok (.aload_n 0, 1)) (d7 : decode code (pc + 7) = .ok (.iload_n 3, 1)) (d8 : decode code (pc + 8) = .ok (.iconst 2, 1)) (d9 : decode code (pc + 9) = .ok (.iadd, 1)) (d10 : decode code (pc + 10) = .ok (.iaload, 1)) (d11 : decode code (pc + 11) = .ok (.aload_n 0, 1)) (d12 : decode code (pc + 12) = .ok (.iload_n 3, 1)) (d13 : decode code (pc + 13) = .ok (.iconst 3, 1)) (d14 : decode code (pc + 14) = .ok (.iadd, 1)) (d15 : decode code (pc + 15) = .ok (.iaload, 1)) (d16 : decode code (pc + 16) = .ok (.aload_n 0, 1)) (d17 : decode code (pc + 17) = .ok (.iload_n 3, 1)) (d18 : decode code (pc + 18) = .ok (.iconst 4, 1)) (d19 : decode code (pc + 19) = .ok (.iadd, 1)) (d20 : decode code (pc + 20) = .ok (.iaload, 1)) (d21 : decode code (pc + 21) = .ok (.aload_n 0, 1)) (d22 : decode code (pc + 22) = .ok (.iload_n 3, 1)) (d23 : decode code (pc + 23) = .ok (.iconst 5, 1)) (d24 : decode code (pc + 24) = .ok (.iadd, 1)) (d25 : decode code (pc + 25) = .ok (.iaload, 1)) (d26 : decode code (pc + 26) = .ok (.invokevirtual ix, 3)) (d29 : decode code (pc + 29) = .ok (.aload_n 2, 1)) (d30 : decode code (pc + 30) = .ok (.aload_n 0, 1)) (d31 : decode code (pc + 31) = .ok (.iload_n 3, 1)) (d32 : decode code (pc + 32) = .ok (.iconst 1, 1)) (d33 : decode code (pc + 33) = .ok (.iadd, 1)) (d34 : decode code (pc + 34) = .ok (.iaload, 1)) (d35 : decode code (pc + 35) = .ok (.aload_n 0, 1)) (d36 : decode code (pc + 36) = .ok (.iload_n 3, 1)) (d37 : decode code (pc + 37) = .ok (.iconst 2, 1)) (d38 : decode code (pc + 38) = .ok (.iadd, 1)) (d39 : decode code (pc + 39) = .ok (.iaload, 1)) (d40 : decode code (pc + 40) = .ok (.aload_n 0, 1)) (d41 : decode code (pc + 41) = .ok (.iload_n 3, 1)) (d42 : decode code (pc + 42) = .ok (.iconst 3, 1)) (d43 : decode code (pc + 43) = .ok (.iadd, 1)) (d44 : decode code (pc + 44) = .ok (.iaload, 1)) (d45 : decode code (pc + 45) = .ok (.aload_n 0, 1)) (d46 : decode code (pc + 46) = .ok (.iload_n 3, 1)) (d47 : decode code (pc + 47) = .ok (.iconst 4, 1)) (d48 : decode code (pc + 48) = .ok (.iadd, 1)) (d49 : decode code (pc + 49) = .ok (.iaload, 1)) (d50 : decode code (pc + 50) = .ok (.aload_n 0, 1)) (d51 : decode code (pc + 51) = .ok (.iload_n 3, 1)) (d52 : decode code (pc + 52) = .ok (.iconst 5, 1)) (d53 : decode code (pc + 53) = .ok (.iadd, 1)) (d54 : decode code (pc + 54) = .ok (.iaload, 1)) (d55 : decode code (pc + 55) = .ok (.invokevirtual im, 3)) (d58 : decode code (pc + 58) = .ok (.if_icmp .eq off, 3)) (ht : ((pc + 58 : Nat) : Int) + off = (2022 : Nat))
    (owe : lOweI pA w0 jx jm [.int (xs 1), .int (xs 2), .int (xs 3), .int (xs 4), .int (xs 5)]) (hK : ∀ w2, w2.length ≤ 600000 → pwsz w2 ≤ 7302250 → lK p l e s m below meth c D b bs cA Q 2022 (lLv b pA) [] w2) : lK p l e s m below meth c D b bs cA Q pc (lLv b pA) [] w0 := by
  obtain ⟨v, w1, w2, r1, r2, z1, z2⟩ := owe
  have K := hK w2 z1 z2
  have g2 : pLe w1 w2 := by
    obtain ⟨n2, r2⟩ := r2
    exact pGo_m _ _ _ _ _ r2
  have hw9' : ∃ f, w1[pA]? = some (.inr (9, f)) := by
    obtain ⟨n1, r1⟩ := r1
    exact pGo_p _ _ _ _ _ r1 pA 9 f9 hw9
  obtain ⟨f9', hw9'⟩ := hw9'
  unfold lLv at K ⊢
  refine lloadR C rfl (List.mem_cons_of_mem _ (List.mem_cons_of_mem _ List.mem_cons_self)) d0 ?_
  refine larg (pc := pc + 1) (k := 1) C List.mem_cons_self rfl (by omega) hL d1 d2 d3 d4 d5 ?_
  refine larg (pc := pc + 6) (k := 2) C List.mem_cons_self rfl (by omega) hL d6 d7 d8 d9 d10 ?_
  refine larg (pc := pc + 11) (k := 3) C List.mem_cons_self rfl (by omega) hL d11 d12 d13 d14 d15 ?_
  refine larg (pc := pc + 16) (k := 4) C List.mem_cons_self rfl (by omega) hL d16 d17 d18 d19 d20 ?_
  refine larg (pc := pc + 21) (k := 5) C List.mem_cons_self rfl (by omega) hL d21 d22 d23 d24 d25 ?_
  refine lcallV (pc := pc + 26) (as := [.int (xs 1), .int (xs 2), .int (xs 3), .int (xs 4), .int (xs 5)]) (rest := []) (r := some (.int v)) C d26 okx hw8 rfl (Nat.le_of_ble_eq_true rfl) (Nat.le_of_ble_eq_true rfl) r1 (Nat.le_trans g2.1 z1) (Nat.le_trans g2.2 z2) ?_
  refine lloadR (pc := pc + 29) C rfl (List.mem_cons_of_mem _ List.mem_cons_self) d29 ?_
  refine larg (pc := pc + 30) (k := 1) C List.mem_cons_self rfl (by omega) hL d30 d31 d32 d33 d34 ?_
  refine larg (pc := pc + 35) (k := 2) C List.mem_cons_self rfl (by omega) hL d35 d36 d37 d38 d39 ?_
  refine larg (pc := pc + 40) (k := 3) C List.mem_cons_self rfl (by omega) hL d40 d41 d42 d43 d44 ?_
  refine larg (pc := pc + 45) (k := 4) C List.mem_cons_self rfl (by omega) hL d45 d46 d47 d48 d49 ?_
  refine larg (pc := pc + 50) (k := 5) C List.mem_cons_self rfl (by omega) hL d50 d51 d52 d53 d54 ?_
  refine lcallV (pc := pc + 55) (as := [.int (xs 1), .int (xs 2), .int (xs 3), .int (xs 4), .int (xs 5)]) (rest := [.int v]) (r := some (.int v)) C d55 okm hw9' rfl (Nat.le_of_ble_eq_true rfl) (Nat.le_of_ble_eq_true rfl) r2 z1 z2 ?_
  exact lcmpI (pc := pc + 58) (x := v) C d58 ht K
end LAW
