/-! ONE INSTRUCTION OF THE PLAIN MACHINE IS ONE OF THE MACHINE. -/
section PST
variable {p : Program} {l : Launch} {e : Env} {R : Room} {s : State} {m : MethodId} {args : Array Value} {below : List Frame} {meth : Method} {c : Code} {D : va_G} {b : pBas} {n0 z0 i : Nat} {cA : Nat → ClassId} {Q : State → Prop}
/-- what stays as it is while a method runs -/
def pCtx (p : Program) (R : Room) (s : State) (m : MethodId) (args : Array Value) (meth : Method) (c : Code) (D : va_G) (b : pBas) (n0 i : Nat) (cA : Nat → ClassId) : Prop :=
  p.tables.exec = Jvm.exec ∧ c.code = pB i ∧ c.maxLocals = pX i ∧ meth.sig.returnType = pR i ∧ s.vm.findClass (pN (pO i)) = some m.cls ∧ (∀ w ∈ pG0, w.before args s = true) ∧ (∀ w ∈ pN0, va_Nw w s) ∧
  va_K D vwCl (pTys cA) s ∧ meth.locks = false ∧ meth.name = (pY i).name ∧ pSiz b n0 s.heap.size ∧ pFr i ≤ R.frames ∧ pLo i ≤ R.locals
/-- the script lies as place 0 has it -/
def pScr (s : State) (b : pBas) (w : pW) : Prop := ∃ (n : Nat) (f : Nat → Int32), w[0]? = some (.inl (6, n, .inl f)) ∧ va_X b.1.2 n f s s.heap
def pAt (s : State) (D : va_G) (b : pBas) (cA : Nat → ClassId) (w : pW) (H : Heap) (locs : List Loc) : Prop := (va_P D vwCl (pwv b cA w) H ∧ pScr s b w) ∧ va_S (pAdS b) s.heap H locs
/-- the machine stands at a state of the plain machine: it comes to Q -/
def pK (p : Program) (l : Launch) (e : Env) (R : Room) (s : State) (m : MethodId) (args : Array Value) (below : List Frame) (meth : Method) (c : Code) (D : va_G) (b : pBas) (n0 z0 i : Nat) (cA : Nat → ClassId) (Q : State → Prop) (q : pSt) : Prop :=
  ∀ (H : Heap) (locs : List Loc) (ls : Array Slot), pAt s D b cA q.2.2.2 H locs → lv_has ls (pX i) (pw2 b q.2.1) → W p l e R s m args below meth c H locs (q.2.2.2.length - n0) (pwsz q.2.2.2 - z0) Q (F0 m q.1 ls (q.2.2.1.map (pv b)))
theorem pScr_pos {w : pW} {a : Nat} {c0 : pCell} (h : pScr s b w) (hw : w[a]? = some c0) (hc : pK6 c0 = false) : 1 ≤ a := by
  obtain ⟨n, f, e, -⟩ := h
  rcases Nat.eq_zero_or_pos a with z | z
  · subst z
    rw [e] at hw
    cases hw
    cases hc
  · exact z
theorem pScr_set {w : pW} {a : Nat} {c1 : pCell} (h : pScr s b w) (hk : 1 ≤ a) : pScr s b (w.set a c1) := by
  obtain ⟨n, f, e, x⟩ := h
  exact ⟨n, f, by rw [List.getElem?_set_ne (by omega)]; exact e, x⟩
theorem pScr_app {w l9 : pW} (h : pScr s b w) : pScr s b (w ++ l9) := by
  obtain ⟨n, f, e, x⟩ := h
  exact ⟨n, f, by rw [List.getElem?_append_left (List.getElem?_eq_some_iff.mp e).1]; exact e, x⟩
theorem pScr_no : ¬ pAdS b b.1.2 := fun z => by
  have h9 := b.2
  have z : b.1.1 + 1 ≤ b.1.2 := z
  omega
theorem pScr_H {w : pW} {H : Heap} {locs : List Loc} (h : pScr s b w) (hS : va_S (pAdS b) s.heap H locs) : H[b.1.2]? = s.heap[b.1.2]? := by
  obtain ⟨n, f, e, scr, g1, -⟩ := h
  exact hS.2.1 _ (Array.getElem?_eq_some_iff.mp g1).1 pScr_no
/-- a callee's script is the caller's -/
theorem pScr_join {w w1 : pW} {H : Heap} {locs : List Loc} {st : State} (h : pScr s b w) (hS : va_S (pAdS b) s.heap H locs) (hst : st.heap = H) (hY : pScr st b w1) : pScr s b w1 := by
  have key := pScr_H h hS
  obtain ⟨n, f, e1, scr, g1, g2, g3, g4, g5⟩ := h
  obtain ⟨n1, f1, e2, scr1, k1, k2, k3, k4, k5⟩ := hY
  rw [hst, key, g1] at k1
  cases k1
  exact ⟨n1, f1, e2, scr, g1, g2, g3, k4, k5⟩
theorem pScr_moved {w : pW} {U : State} (h : pScr s b w) (hvm : s.vm.Alike U.vm) (hH : U.heap[b.1.2]? = s.heap[b.1.2]?) : pScr U b w := by
  obtain ⟨n, f, e, x⟩ := h
  exact ⟨n, f, e, (x.moved hvm).kept hH⟩
theorem pPos {w : pW} {H : Heap} {locs : List Loc} {a : Nat} {c0 : pCell} (hA : pAt s D b cA w H locs) (hw : w[a]? = some c0) (hc : pK6 c0 = false) : 1 ≤ a := pScr_pos hA.1.2 hw hc
theorem W_sz {H : Heap} {locs : List Loc} {cells slots : Nat} {g : JFrame} (k : H.size ≤ s.heap.size + cells → W p l e R s m args below meth c H locs cells slots Q g) : W p l e R s m args below meth c H locs cells slots Q g :=
  fun T hT X => k (by rw [← hT]; exact X.heapSize) T hT X
theorem pAt_lo {w : pW} {H : Heap} {locs : List Loc} (hs : pSiz b n0 s.heap.size) (h : pAt s D b cA w H locs) : b.1.1 + w.length ≤ H.size := by
  obtain ⟨hs1, hs2⟩ := hs
  have h9 := h.2.1
  rcases Nat.lt_or_ge w.length 2 with z | z
  · omega
  · have hk : w.length - 1 < w.length := by omega
    have h1 := pwv_at (b := b) (cA := cA) (List.getElem?_eq_getElem hk) (by omega)
    have h2 : pAdr b (w.length - 1) < H.size := (h.1.1 _ _ h1).lt
    rw [pAdr_pos b (by omega)] at h2
    omega
theorem pAt_sz {w : pW} {H : Heap} {locs : List Loc} (hs : pSiz b n0 s.heap.size) (h : pAt s D b cA w H locs) (hn : n0 ≤ w.length) (hu : H.size ≤ s.heap.size + (w.length - n0)) : pSiz b w.length H.size := by
  have h9 := pAt_lo hs h
  obtain ⟨hs1, hs2⟩ := hs
  exact ⟨by omega, by omega⟩
-- the rows of one instruction, by the shape of what they do
theorem pII_k {pc pc' : Nat} {lv : pLv} {st : List Value} {w : pW} {f : Int32 → Int32 → Value} {q : pSt} (h : pII pc' lv st w f = some (.inl q)) (hf : ∀ x y, pv b (f x y) = f x y)
    (row : ∀ (H : Heap) (locs : List Loc) (ls : Array Slot) (cells slots : Nat) (x y : Int32) (rest : List Value), W p l e R s m args below meth c H locs cells slots Q (F0 m pc' ls (f x y :: rest)) → W p l e R s m args below meth c H locs cells slots Q (F0 m pc ls (.int y :: .int x :: rest)))
    (k : pK p l e R s m args below meth c D b n0 z0 i cA Q q) : pK p l e R s m args below meth c D b n0 z0 i cA Q (pc, lv, st, w) := by
  intro H locs ls hA hl
  unfold pII pGo1 at h
  split at h
  · cases h
    refine row H locs ls _ _ _ _ _ ?_
    have := k H locs ls hA hl
    simp only [List.map_cons, hf] at this
    exact this
  · cases h
theorem pLL_k {pc pc' : Nat} {lv : pLv} {st : List Value} {w : pW} {f : Int64 → Int64 → Value} {q : pSt} (h : pLL pc' lv st w f = some (.inl q)) (hf : ∀ x y, pv b (f x y) = f x y)
    (row : ∀ (H : Heap) (locs : List Loc) (ls : Array Slot) (cells slots : Nat) (x y : Int64) (rest : List Value), W p l e R s m args below meth c H locs cells slots Q (F0 m pc' ls (f x y :: rest)) → W p l e R s m args below meth c H locs cells slots Q (F0 m pc ls (.long y :: .long x :: rest)))
    (k : pK p l e R s m args below meth c D b n0 z0 i cA Q q) : pK p l e R s m args below meth c D b n0 z0 i cA Q (pc, lv, st, w) := by
  intro H locs ls hA hl
  unfold pLL pGo1 at h
  split at h
  · cases h
    refine row H locs ls _ _ _ _ _ ?_
    have := k H locs ls hA hl
    simp only [List.map_cons, hf] at this
    exact this
  · cases h
theorem pLI_k {pc pc' : Nat} {lv : pLv} {st : List Value} {w : pW} {f : Int64 → Int32 → Value} {q : pSt} (h : pLI pc' lv st w f = some (.inl q)) (hf : ∀ x y, pv b (f x y) = f x y)
    (row : ∀ (H : Heap) (locs : List Loc) (ls : Array Slot) (cells slots : Nat) (x : Int64) (y : Int32) (rest : List Value), W p l e R s m args below meth c H locs cells slots Q (F0 m pc' ls (f x y :: rest)) → W p l e R s m args below meth c H locs cells slots Q (F0 m pc ls (.int y :: .long x :: rest)))
    (k : pK p l e R s m args below meth c D b n0 z0 i cA Q q) : pK p l e R s m args below meth c D b n0 z0 i cA Q (pc, lv, st, w) := by
  intro H locs ls hA hl
  unfold pLI pGo1 at h
  split at h
  · cases h
    refine row H locs ls _ _ _ _ _ ?_
    have := k H locs ls hA hl
    simp only [List.map_cons, hf] at this
    exact this
  · cases h
theorem pDD_k {pc pc' : Nat} {lv : pLv} {st : List Value} {w : pW} {f : UInt64 → UInt64 → Value} {q : pSt} (h : pDD pc' lv st w f = some (.inl q)) (hf : ∀ x y, pv b (f x y) = f x y)
    (row : ∀ (H : Heap) (locs : List Loc) (ls : Array Slot) (cells slots : Nat) (x y : UInt64) (rest : List Value), W p l e R s m args below meth c H locs cells slots Q (F0 m pc' ls (f x y :: rest)) → W p l e R s m args below meth c H locs cells slots Q (F0 m pc ls (.double y :: .double x :: rest)))
    (k : pK p l e R s m args below meth c D b n0 z0 i cA Q q) : pK p l e R s m args below meth c D b n0 z0 i cA Q (pc, lv, st, w) := by
  intro H locs ls hA hl
  unfold pDD pGo1 at h
  split at h
  · cases h
    refine row H locs ls _ _ _ _ _ ?_
    have := k H locs ls hA hl
    simp only [List.map_cons, hf] at this
    exact this
  · cases h
theorem pI1_k {pc pc' : Nat} {lv : pLv} {st : List Value} {w : pW} {f : Int32 → Value} {q : pSt} (h : pI1 pc' lv st w f = some (.inl q)) (hf : ∀ x, pv b (f x) = f x)
    (row : ∀ (H : Heap) (locs : List Loc) (ls : Array Slot) (cells slots : Nat) (x : Int32) (rest : List Value), W p l e R s m args below meth c H locs cells slots Q (F0 m pc' ls (f x :: rest)) → W p l e R s m args below meth c H locs cells slots Q (F0 m pc ls (.int x :: rest)))
    (k : pK p l e R s m args below meth c D b n0 z0 i cA Q q) : pK p l e R s m args below meth c D b n0 z0 i cA Q (pc, lv, st, w) := by
  intro H locs ls hA hl
  unfold pI1 pGo1 at h
  split at h
  · cases h
    refine row H locs ls _ _ _ _ ?_
    have := k H locs ls hA hl
    simp only [List.map_cons, hf] at this
    exact this
  · cases h
theorem pL1_k {pc pc' : Nat} {lv : pLv} {st : List Value} {w : pW} {f : Int64 → Value} {q : pSt} (h : pL1 pc' lv st w f = some (.inl q)) (hf : ∀ x, pv b (f x) = f x)
    (row : ∀ (H : Heap) (locs : List Loc) (ls : Array Slot) (cells slots : Nat) (x : Int64) (rest : List Value), W p l e R s m args below meth c H locs cells slots Q (F0 m pc' ls (f x :: rest)) → W p l e R s m args below meth c H locs cells slots Q (F0 m pc ls (.long x :: rest)))
    (k : pK p l e R s m args below meth c D b n0 z0 i cA Q q) : pK p l e R s m args below meth c D b n0 z0 i cA Q (pc, lv, st, w) := by
  intro H locs ls hA hl
  unfold pL1 pGo1 at h
  split at h
  · cases h
    refine row H locs ls _ _ _ _ ?_
    have := k H locs ls hA hl
    simp only [List.map_cons, hf] at this
    exact this
  · cases h
theorem pD1_k {pc pc' : Nat} {lv : pLv} {st : List Value} {w : pW} {f : UInt64 → Value} {q : pSt} (h : pD1 pc' lv st w f = some (.inl q)) (hf : ∀ x, pv b (f x) = f x)
    (row : ∀ (H : Heap) (locs : List Loc) (ls : Array Slot) (cells slots : Nat) (x : UInt64) (rest : List Value), W p l e R s m args below meth c H locs cells slots Q (F0 m pc' ls (f x :: rest)) → W p l e R s m args below meth c H locs cells slots Q (F0 m pc ls (.double x :: rest)))
    (k : pK p l e R s m args below meth c D b n0 z0 i cA Q q) : pK p l e R s m args below meth c D b n0 z0 i cA Q (pc, lv, st, w) := by
  intro H locs ls hA hl
  unfold pD1 pGo1 at h
  split at h
  · cases h
    refine row H locs ls _ _ _ _ ?_
    have := k H locs ls hA hl
    simp only [List.map_cons, hf] at this
    exact this
  · cases h
/-- nothing off the stack, a value on it -/
theorem pC_k {pc pc' : Nat} {lv : pLv} {st : List Value} {w : pW} {v : Value} {q : pSt} (h : pGo1 pc' lv (v :: st) w = some (.inl q)) (hf : pv b v = v)
    (row : ∀ (H : Heap) (locs : List Loc) (ls : Array Slot) (cells slots : Nat) (rest : List Value), W p l e R s m args below meth c H locs cells slots Q (F0 m pc' ls (v :: rest)) → W p l e R s m args below meth c H locs cells slots Q (F0 m pc ls rest))
    (k : pK p l e R s m args below meth c D b n0 z0 i cA Q q) : pK p l e R s m args below meth c D b n0 z0 i cA Q (pc, lv, st, w) := by
  intro H locs ls hA hl
  unfold pGo1 at h
  cases h
  refine row H locs ls _ _ _ ?_
  have := k H locs ls hA hl
  simp only [List.map_cons, hf] at this
  exact this
theorem pLd1_k {pc pc' j : Nat} {lv : pLv} {st : List Value} {w : pW} {q : pSt} (h : pLd1 pc' lv st w (pGet lv j) = some (.inl q))
    (row : ∀ (H : Heap) (locs : List Loc) (ls : Array Slot) (cells slots : Nat) (x : Int32) (rest : List Value), ls[j]? = some (.val (.int x)) → W p l e R s m args below meth c H locs cells slots Q (F0 m pc' ls (.int x :: rest)) → W p l e R s m args below meth c H locs cells slots Q (F0 m pc ls rest))
    (k : pK p l e R s m args below meth c D b n0 z0 i cA Q q) : pK p l e R s m args below meth c D b n0 z0 i cA Q (pc, lv, st, w) := by
  intro H locs ls hA hl
  unfold pLd1 pGo1 at h
  split at h
  · rename_i x hx
    cases h
    exact row H locs ls _ _ _ _ (pGet_ls hl hx) (k H locs ls hA hl)
  · cases h
theorem pLdL_k {pc pc' j : Nat} {lv : pLv} {st : List Value} {w : pW} {q : pSt} (h : pLdL pc' lv st w (pGet lv j) = some (.inl q))
    (row : ∀ (H : Heap) (locs : List Loc) (ls : Array Slot) (cells slots : Nat) (x : Int64) (rest : List Value), ls[j]? = some (.val (.long x)) → W p l e R s m args below meth c H locs cells slots Q (F0 m pc' ls (.long x :: rest)) → W p l e R s m args below meth c H locs cells slots Q (F0 m pc ls rest))
    (k : pK p l e R s m args below meth c D b n0 z0 i cA Q q) : pK p l e R s m args below meth c D b n0 z0 i cA Q (pc, lv, st, w) := by
  intro H locs ls hA hl
  unfold pLdL pGo1 at h
  split at h
  · rename_i x hx
    cases h
    exact row H locs ls _ _ _ _ (pGet_ls hl hx) (k H locs ls hA hl)
  · cases h
theorem pLdD_k {pc pc' j : Nat} {lv : pLv} {st : List Value} {w : pW} {q : pSt} (h : pLdD pc' lv st w (pGet lv j) = some (.inl q))
    (row : ∀ (H : Heap) (locs : List Loc) (ls : Array Slot) (cells slots : Nat) (x : UInt64) (rest : List Value), ls[j]? = some (.val (.double x)) → W p l e R s m args below meth c H locs cells slots Q (F0 m pc' ls (.double x :: rest)) → W p l e R s m args below meth c H locs cells slots Q (F0 m pc ls rest))
    (k : pK p l e R s m args below meth c D b n0 z0 i cA Q q) : pK p l e R s m args below meth c D b n0 z0 i cA Q (pc, lv, st, w) := by
  intro H locs ls hA hl
  unfold pLdD pGo1 at h
  split at h
  · rename_i x hx
    cases h
    exact row H locs ls _ _ _ _ (pGet_ls hl hx) (k H locs ls hA hl)
  · cases h
theorem pLdA_k {pc pc' j : Nat} {lv : pLv} {st : List Value} {w : pW} {q : pSt} (h : pLdA pc' lv st w (pGet lv j) = some (.inl q))
    (row : ∀ (H : Heap) (locs : List Loc) (ls : Array Slot) (cells slots : Nat) (x : Nat) (rest : List Value), ls[j]? = some (.val (.ref x)) → W p l e R s m args below meth c H locs cells slots Q (F0 m pc' ls (.ref x :: rest)) → W p l e R s m args below meth c H locs cells slots Q (F0 m pc ls rest))
    (rowN : ∀ (H : Heap) (locs : List Loc) (ls : Array Slot) (cells slots : Nat) (rest : List Value), ls[j]? = some (.val .null) → W p l e R s m args below meth c H locs cells slots Q (F0 m pc' ls (.null :: rest)) → W p l e R s m args below meth c H locs cells slots Q (F0 m pc ls rest))
    (k : pK p l e R s m args below meth c D b n0 z0 i cA Q q) : pK p l e R s m args below meth c D b n0 z0 i cA Q (pc, lv, st, w) := by
  intro H locs ls hA hl
  unfold pLdA pGo1 at h
  split at h
  · rename_i x hx
    cases h
    exact row H locs ls _ _ _ _ (pGet_ls hl hx) (k H locs ls hA hl)
  · rename_i hx
    cases h
    exact rowN H locs ls _ _ _ (pGet_ls hl hx) (k H locs ls hA hl)
  · cases h
theorem pSt1_k {pc pc' j : Nat} {lv : pLv} {st : List Value} {w : pW} {q : pSt} (h : pSt1 pc' lv j st w = some (.inl q))
    (row : ∀ (H : Heap) (locs : List Loc) (ls : Array Slot) (cells slots : Nat) (x : Int32) (rest : List Value) (lv' : pLv), lv_has ls (pX i) (pw2 b lv) → (j, Value.int x) :: (pw2 b lv).filter (fun q => !(q.1 == j) && !(q.1 + 1 == j && q.2.category == 2)) = lv' → (∀ ls', lv_has ls' (pX i) lv' → W p l e R s m args below meth c H locs cells slots Q (F0 m pc' ls' rest)) → W p l e R s m args below meth c H locs cells slots Q (F0 m pc ls (.int x :: rest)))
    (k : pK p l e R s m args below meth c D b n0 z0 i cA Q q) : pK p l e R s m args below meth c D b n0 z0 i cA Q (pc, lv, st, w) := by
  intro H locs ls hA hl
  unfold pSt1 pGo1 at h
  split at h
  · cases h
    exact row H locs ls _ _ _ _ _ hl (pw2_set1 b lv j (.int _)) (fun ls' hl' => k H locs ls' hA hl')
  · cases h
theorem pStA_k {pc pc' j : Nat} {lv : pLv} {st : List Value} {w : pW} {q : pSt} (h : pStA pc' lv j st w = some (.inl q))
    (row : ∀ (H : Heap) (locs : List Loc) (ls : Array Slot) (cells slots : Nat) (x : Nat) (rest : List Value) (lv' : pLv), lv_has ls (pX i) (pw2 b lv) → (j, Value.ref x) :: (pw2 b lv).filter (fun q => !(q.1 == j) && !(q.1 + 1 == j && q.2.category == 2)) = lv' → (∀ ls', lv_has ls' (pX i) lv' → W p l e R s m args below meth c H locs cells slots Q (F0 m pc' ls' rest)) → W p l e R s m args below meth c H locs cells slots Q (F0 m pc ls (.ref x :: rest)))
    (rowN : ∀ (H : Heap) (locs : List Loc) (ls : Array Slot) (cells slots : Nat) (rest : List Value) (lv' : pLv), lv_has ls (pX i) (pw2 b lv) → (j, Value.null) :: (pw2 b lv).filter (fun q => !(q.1 == j) && !(q.1 + 1 == j && q.2.category == 2)) = lv' → (∀ ls', lv_has ls' (pX i) lv' → W p l e R s m args below meth c H locs cells slots Q (F0 m pc' ls' rest)) → W p l e R s m args below meth c H locs cells slots Q (F0 m pc ls (.null :: rest)))
    (k : pK p l e R s m args below meth c D b n0 z0 i cA Q q) : pK p l e R s m args below meth c D b n0 z0 i cA Q (pc, lv, st, w) := by
  intro H locs ls hA hl
  unfold pStA pGo1 at h
  split at h
  · cases h
    exact row H locs ls _ _ _ _ _ hl (pw2_set1 b lv j (.ref _)) (fun ls' hl' => k H locs ls' hA hl')
  · cases h
    exact rowN H locs ls _ _ _ _ hl (pw2_set1 b lv j .null) (fun ls' hl' => k H locs ls' hA hl')
  · cases h
theorem pStL_k {pc pc' j : Nat} {lv : pLv} {st : List Value} {w : pW} {q : pSt} (h : pStL pc' lv j st w = some (.inl q))
    (row : ∀ (H : Heap) (locs : List Loc) (ls : Array Slot) (cells slots : Nat) (x : Int64) (rest : List Value) (lv' : pLv), lv_has ls (pX i) (pw2 b lv) → (j, Value.long x) :: (pw2 b lv).filter (fun q => !(q.1 == j) && (!(q.1 == j + 1) && !(q.1 + 1 == j && q.2.category == 2))) = lv' → (∀ ls', lv_has ls' (pX i) lv' → W p l e R s m args below meth c H locs cells slots Q (F0 m pc' ls' rest)) → W p l e R s m args below meth c H locs cells slots Q (F0 m pc ls (.long x :: rest)))
    (k : pK p l e R s m args below meth c D b n0 z0 i cA Q q) : pK p l e R s m args below meth c D b n0 z0 i cA Q (pc, lv, st, w) := by
  intro H locs ls hA hl
  unfold pStL pGo1 at h
  split at h
  · cases h
    exact row H locs ls _ _ _ _ _ hl (pw2_set2 b lv j (.long _)) (fun ls' hl' => k H locs ls' hA hl')
  · cases h
theorem pStD_k {pc pc' j : Nat} {lv : pLv} {st : List Value} {w : pW} {q : pSt} (h : pStD pc' lv j st w = some (.inl q))
    (row : ∀ (H : Heap) (locs : List Loc) (ls : Array Slot) (cells slots : Nat) (x : UInt64) (rest : List Value) (lv' : pLv), lv_has ls (pX i) (pw2 b lv) → (j, Value.double x) :: (pw2 b lv).filter (fun q => !(q.1 == j) && (!(q.1 == j + 1) && !(q.1 + 1 == j && q.2.category == 2))) = lv' → (∀ ls', lv_has ls' (pX i) lv' → W p l e R s m args below meth c H locs cells slots Q (F0 m pc' ls' rest)) → W p l e R s m args below meth c H locs cells slots Q (F0 m pc ls (.double x :: rest)))
    (k : pK p l e R s m args below meth c D b n0 z0 i cA Q q) : pK p l e R s m args below meth c D b n0 z0 i cA Q (pc, lv, st, w) := by
  intro H locs ls hA hl
  unfold pStD pGo1 at h
  split at h
  · cases h
    exact row H locs ls _ _ _ _ _ hl (pw2_set2 b lv j (.double _)) (fun ls' hl' => k H locs ls' hA hl')
  · cases h
theorem pIf_k {pc : Nat} {dt : List Nat} {lv : pLv} {st : List Value} {w : pW} {f : Int32 → Bool} {q : pSt} {G : Int32 → Prop} (h : pIf pc dt lv st w f = some (.inl q)) (hG : ∀ x, f x = true ↔ G x)
    (row : ∀ (H : Heap) (locs : List Loc) (ls : Array Slot) (cells slots : Nat) (x : Int32) (rest : List Value) (t : Nat), dt = [t] → (G x → W p l e R s m args below meth c H locs cells slots Q (F0 m t ls rest)) → (¬ G x → W p l e R s m args below meth c H locs cells slots Q (F0 m (pc + 3) ls rest)) → W p l e R s m args below meth c H locs cells slots Q (F0 m pc ls (.int x :: rest)))
    (k : pK p l e R s m args below meth c D b n0 z0 i cA Q q) : pK p l e R s m args below meth c D b n0 z0 i cA Q (pc, lv, st, w) := by
  intro H locs ls hA hl
  unfold pIf pBr pGo1 at h
  split at h
  · split at h
    · rename_i x st' _ t
      refine row H locs ls _ _ _ _ t rfl (fun g => ?_) (fun g => ?_)
      · rw [(hG x).mpr g] at h
        cases h
        exact k H locs ls hA hl
      · have hx : f x = false := by
          cases hb : f x with
          | false => rfl
          | true => exact absurd ((hG x).mp hb) g
        rw [hx] at h
        cases h
        exact k H locs ls hA hl
    · cases h
  · cases h
theorem pIf2_k {pc : Nat} {dt : List Nat} {lv : pLv} {st : List Value} {w : pW} {f : Int32 → Int32 → Bool} {q : pSt} {G : Int32 → Int32 → Prop} (h : pIf2 pc dt lv st w f = some (.inl q)) (hG : ∀ x y, f x y = true ↔ G x y)
    (row : ∀ (H : Heap) (locs : List Loc) (ls : Array Slot) (cells slots : Nat) (x y : Int32) (rest : List Value) (t : Nat), dt = [t] → (G x y → W p l e R s m args below meth c H locs cells slots Q (F0 m t ls rest)) → (¬ G x y → W p l e R s m args below meth c H locs cells slots Q (F0 m (pc + 3) ls rest)) → W p l e R s m args below meth c H locs cells slots Q (F0 m pc ls (.int y :: .int x :: rest)))
    (k : pK p l e R s m args below meth c D b n0 z0 i cA Q q) : pK p l e R s m args below meth c D b n0 z0 i cA Q (pc, lv, st, w) := by
  intro H locs ls hA hl
  unfold pIf2 pBr pGo1 at h
  split at h
  · split at h
    · rename_i y x st' _ t
      refine row H locs ls _ _ _ _ _ t rfl (fun g => ?_) (fun g => ?_)
      · rw [(hG x y).mpr g] at h
        cases h
        exact k H locs ls hA hl
      · have hx : f x y = false := by
          cases hb : f x y with
          | false => rfl
          | true => exact absurd ((hG x y).mp hb) g
        rw [hx] at h
        cases h
        exact k H locs ls hA hl
    · cases h
  · cases h
end PST
