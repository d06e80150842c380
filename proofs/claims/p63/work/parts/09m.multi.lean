/-! ROWS OF ROWS OF INTS, MADE AT ONCE (multianewarray of two lengths): what the model's own loop makes, and one instruction. -/
/-- the upper row when i rows are in it; it lies at h, they from h + 1 on -/
def mu_top (cT : ClassId) (h N i : Nat) : Cell := arrV cT N (fun j => bif Nat.ble (j + 1) i then .ref (h + 1 + j) else .null)
def mu_row (cR : ClassId) (M : Nat) : Cell := arrV cR M (fun _ => .int 0)
def mu_st (u : State) (cT cR : ClassId) (N M : Nat) : Nat → State
  | 0 => u.pushCell (mu_top cT u.heap.size N 0)
  | i + 1 => ((mu_st u cT cR N M i).pushCell (mu_row cR M)).setCell u.heap.size (mu_top cT u.heap.size N (i + 1))
theorem mu_row_sz (cR : ClassId) (M : Nat) : (mu_row cR M).slots.size = M := arrV_size _ _ _
theorem mu_top_sz (cT : ClassId) (h N i : Nat) : (mu_top cT h N i).slots.size = N := arrV_size _ _ _
theorem mu_top_put (cT : ClassId) (h N i : Nat) : (mu_top cT h N i).setSlot i (.ref (h + 1 + i)) = mu_top cT h N (i + 1) := by
  unfold mu_top
  rw [arrV_store]
  congr 1
  funext j
  unfold updV
  by_cases e : j = i
  · subst e
    rw [if_pos rfl, Nat.ble_eq_true_of_le (Nat.le_refl _)]
    rfl
  · rw [if_neg e]
    show (bif Nat.ble (j + 1) i then Value.ref (h + 1 + j) else Value.null) = _
    by_cases g : j + 1 ≤ i
    · rw [Nat.ble_eq_true_of_le g, Nat.ble_eq_true_of_le (Nat.le_succ_of_le g)]
    · have g2 : ¬ j + 1 ≤ i + 1 := by omega
      rw [show Nat.ble (j + 1) i = false from by
        cases hb : Nat.ble (j + 1) i with
        | false => rfl
        | true => exact absurd (Nat.le_of_ble_eq_true hb) g]
      rw [show Nat.ble (j + 1) (i + 1) = false from by
        cases hb : Nat.ble (j + 1) (i + 1) with
        | false => rfl
        | true => exact absurd (Nat.le_of_ble_eq_true hb) g2]
theorem mu_sz (u : State) (cT cR : ClassId) (N M : Nat) (i : Nat) : (mu_st u cT cR N M i).heap.size = u.heap.size + 1 + i := by
  induction i with
  | zero => simp [mu_st]
  | succ i ih => simp [mu_st, State.setCell, ih]; omega
theorem mu_at (u : State) (cT cR : ClassId) (N M : Nat) (i : Nat) : (mu_st u cT cR N M i).heap[u.heap.size]? = some (mu_top cT u.heap.size N i) := by
  induction i with
  | zero => simp [mu_st]
  | succ i ih =>
    have hlt : u.heap.size < (mu_st u cT cR N M i).heap.size := by rw [mu_sz]; omega
    refine State.heap_setCell_self (c := mu_top cT u.heap.size N i) ?_
    exact (State.heap_pushCell_of_lt _ _ hlt).trans ih
theorem mu_vm (u : State) (cT cR : ClassId) (N M : Nat) (i : Nat) : (mu_st u cT cR N M i).vm = u.vm := by
  induction i with
  | zero => rfl
  | succ i ih => simp [mu_st, ih]
theorem mu_used (u : State) (cT cR : ClassId) (N M : Nat) (i : Nat) : (mu_st u cT cR N M i).slotsUsed = u.slotsUsed + N + i * M := by
  induction i with
  | zero => simp [mu_st, mu_top_sz]
  | succ i ih => simp [mu_st, ih, mu_row_sz, Nat.succ_mul]; omega
theorem mu_setTop (u : State) (f : JFrame) (cT cR : ClassId) (N M : Nat) (i : Nat) : mu_st (u.setTop f) cT cR N M i = (mu_st u cT cR N M i).setTop f := by
  induction i with
  | zero => rfl
  | succ i ih => simp only [mu_st, ih, State.heap_setTop, State.pushCell_setTop, State.setCell_setTop]
theorem mu_old (u : State) (cT cR : ClassId) (N M : Nat) {a : Nat} (ha : a < u.heap.size) (i : Nat) : (mu_st u cT cR N M i).heap[a]? = u.heap[a]? := by
  induction i with
  | zero => exact State.heap_pushCell_of_lt _ _ ha
  | succ i ih =>
    have hlt : a < (mu_st u cT cR N M i).heap.size := by rw [mu_sz]; omega
    show (((mu_st u cT cR N M i).pushCell (mu_row cR M)).setCell u.heap.size _).heap[a]? = _
    rw [State.heap_setCell_other (Nat.ne_of_gt ha), State.heap_pushCell_of_lt (h := hlt)]
    exact ih
theorem mu_rows (u : State) (cT cR : ClassId) (N M : Nat) (i : Nat) : ∀ j, j < i → (mu_st u cT cR N M i).heap[u.heap.size + 1 + j]? = some (mu_row cR M) := by
  induction i with
  | zero => intro j h; exact absurd h (Nat.not_lt_zero _)
  | succ i ih =>
    intro j h
    show (((mu_st u cT cR N M i).pushCell (mu_row cR M)).setCell u.heap.size _).heap[u.heap.size + 1 + j]? = _
    rw [State.heap_setCell_other (show u.heap.size ≠ u.heap.size + 1 + j by omega)]
    by_cases hj : j < i
    · have hlt : u.heap.size + 1 + j < (mu_st u cT cR N M i).heap.size := by rw [mu_sz]; omega
      exact (State.heap_pushCell_of_lt _ _ hlt).trans (ih j hj)
    · have e : u.heap.size + 1 + j = (mu_st u cT cR N M i).heap.size := by rw [mu_sz]; omega
      rw [e]
      exact State.heap_pushCell_size _ _
section MUW
variable {E : CtlPost} {e : Env} {d : Bool} {acts : List Action} {s : State}
/-- one row, of whatever components -/
theorem mu_new {c comp : ClassId} {k : Class} {ty : FieldType} {len : Nat} {v : Value} (hk : s.vm.classes[c]? = some k) (hkind : k.kind = .array comp ty)
    (hl : ¬ len > e.platform.arrayLengthLimit) (hh : ¬ len * componentBytes ty > e.platform.maxHeapBytes) (hv : fits ty v = true) (hd : v.isDefault = true) {Q : Addr → Pre}
    (h1 : s.heap.size < e.platform.maxCells) (h2 : s.slotsUsed + len ≤ e.platform.maxSlots)
    (hq : Q s.heap.size d acts (s.pushCell (arrV c len (fun _ => v)))) : wp (Jvm.newArray c len v) Q E e d acts s := by
  rw [← arrV_new] at hq
  have hf : ∀ (i : Nat) (x : Value), (Array.replicate len v)[i]? = some x → s.fitsSlot c .none i x = true := by
    intro i x hx
    rw [Array.getElem?_replicate] at hx
    split at hx
    · cases hx
      simp [State.fitsSlot, State.slotType?, hk, hkind, hv]
    · cases hx
  have ha : allocActs (Array.replicate len v) s.heap.size acts = acts := by
    unfold allocActs
    rw [if_pos]
    rw [Array.all_replicate]
    split
    · rfl
    · exact hd
  simp only [Jvm.newArray, Jvm.arrayFits, wp_bind', W.ask, W.ite, hl, if_false, wp_pure', W.theClass, hk, hkind, hh, W.alloc, W.stop, Option.some.injEq, exists_eq_left', Array.size_replicate, ha]
  rw [if_neg (by omega)]
  exact ⟨h1, h2, hf, hq⟩
/-- the loop: all rows -/
theorem mu_make {cT cR cc : ClassId} {kT kR : Class} {n k : Int32} (hT : s.vm.classes[cT]? = some kT) (hkT : kT.kind = .array cR (.array .int)) (hR : s.vm.classes[cR]? = some kR) (hkR : kR.kind = .array cc .int) (hn : ¬ n < 0) (hk : ¬ k < 0)
    (hl1 : ¬ n.toNatClampNeg > e.platform.arrayLengthLimit) (hh1 : ¬ n.toNatClampNeg * componentBytes (.array .int) > e.platform.maxHeapBytes) (hl2 : ¬ k.toNatClampNeg > e.platform.arrayLengthLimit) (hh2 : ¬ k.toNatClampNeg * componentBytes .int > e.platform.maxHeapBytes)
    (hc : s.heap.size + 1 + n.toNatClampNeg ≤ e.platform.maxCells) (hs : s.slotsUsed + n.toNatClampNeg + n.toNatClampNeg * k.toNatClampNeg ≤ e.platform.maxSlots)
    {Q : Addr → Pre} (hq : ∀ d' acts', Q s.heap.size d' acts' (mu_st s cT cR n.toNatClampNeg k.toNatClampNeg n.toNatClampNeg)) : wp (multianewarray.make cT [n, k]) Q E e d acts s := by
  have hfind : ([k].find? (· < 0)) = none := by simp [hk]
  rw [multianewarray.make]
  simp only [wp_bind', W.ite, hn, if_false, wp_pure', W.theClass, hT, hkT, Option.some.injEq, exists_eq_left']
  refine mu_new hT hkT hl1 hh1 rfl rfl (by omega) (by have := Nat.zero_le (n.toNatClampNeg * k.toNatClampNeg); omega) ?_
  have e0 : s.pushCell (arrV cT n.toNatClampNeg (fun _ => Value.null)) = mu_st s cT cR n.toNatClampNeg k.toNatClampNeg 0 := rfl
  rw [e0]
  simp only [hfind]
  rw [ite_self, wp_bind', Std.Legacy.Range.forIn_eq_forIn_range']
  have hsz : ([:n.toNatClampNeg] : Std.Legacy.Range).size = n.toNatClampNeg := by simp [Std.Legacy.Range.size]
  rw [hsz]
  show wp (forIn (List.range' 0 n.toNatClampNeg 1) PUnit.unit _) _ E e d acts _
  generalize hN : n.toNatClampNeg = N at *
  generalize hM : k.toNatClampNeg = M at *
  refine wp_forIn_inv (fun l u => ∃ i, i + l.length = N ∧ l = List.range' i (N - i) ∧ u = mu_st s cT cR N M i) _ _ ⟨0, by simp, rfl, rfl⟩ ?_ ?_
  · rintro x l u d' acts' Q' ⟨i, hi, hl, rfl⟩ go
    have hiN : i < N := by simp only [List.length_cons] at hi; omega
    rw [show N - i = (N - (i + 1)) + 1 from by omega, List.range'_succ] at hl
    obtain ⟨rfl, hl⟩ := List.cons.inj hl
    have hmul : x * M + M ≤ N * M := by
      have := Nat.mul_le_mul_right M (show x + 1 ≤ N from hiN)
      rw [Nat.succ_mul] at this
      exact this
    simp only [wp_bind']
    rw [multianewarray.make]
    simp only [wp_bind', W.ite, hk, if_false, wp_pure', W.theClass, mu_vm, hR, hkR, Option.some.injEq, exists_eq_left', hM]
    refine mu_new (by rw [mu_vm]; exact hR) hkR hl2 hh2 rfl rfl (by rw [mu_sz]; omega) (by rw [mu_used]; omega) ?_
    have hlt : s.heap.size < (mu_st s cT cR N M x).heap.size := by rw [mu_sz]; omega
    simp only [wp_bind', W.writeLoc, wp_pure']
    refine ⟨mu_top cT s.heap.size N x, by rw [State.heap_pushCell_of_lt (h := hlt)]; exact mu_at s cT cR N M x, (fun h => by cases h), (by rw [mu_top_sz]; exact hiN), ?_, go _ _ _ ⟨x + 1, by simp only [List.length_cons] at hi; omega, hl, ?_⟩⟩
    · show State.fitsSlot _ cT .none x _ = true
      simp [State.fitsSlot, State.slotType?, mu_vm, hT, hkT]
      rfl
    · rw [mu_sz, mu_top_put]
      rfl
  · rintro u d' acts' ⟨i, hi, hl, rfl⟩
    have hiN : i = N := by simpa using hi
    subst hiN
    simp only [wp_pure']
    exact hq _ _
end MUW
section MUS
variable {p : Program} {l : Launch} {e : Env} {R : Room} {s : State} {m : MethodId} {args : Array Value} {below : List Frame} {meth : Method} {c : Code} {T : State} {locs : List Loc} {cells slots : Nat}
theorem mu_stand (X : Stand p l e R s m args below meth c T locs cells slots) (cT cR : ClassId) (N M : Nat) (i : Nat) :
    Stand p l e R s m args below meth c (mu_st T cT cR N M i) (locs ++ (List.range i).map fun j => ⟨T.heap.size, j⟩) (cells + 1 + i) (slots + N + i * M) := by
  induction i with
  | zero =>
    have h := X.pushed (mu_top cT T.heap.size N 0)
    rw [mu_top_sz] at h
    simpa [mu_st] using h
  | succ i ih =>
    have hlt : T.heap.size < (mu_st T cT cR N M i).heap.size := by rw [mu_sz]; omega
    have h := (ih.pushed (mu_row cR M)).stored (a := T.heap.size) (cell := mu_top cT T.heap.size N i) (by rw [State.heap_pushCell_of_lt (h := hlt)]; exact mu_at T cT cR N M i) i (.ref (T.heap.size + 1 + i))
    rw [mu_row_sz, mu_top_put] at h
    rw [show slots + N + (i + 1) * M = slots + N + i * M + M from by rw [Nat.succ_mul]; omega]
    have e2 : (locs ++ (List.range (i + 1)).map fun j => (⟨T.heap.size, j⟩ : Loc)) = (locs ++ (List.range i).map fun j => (⟨T.heap.size, j⟩ : Loc)) ++ [⟨T.heap.size, i⟩] := by simp [List.range_succ]
    rw [e2]
    exact h
end MUS
