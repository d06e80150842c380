/-! ROWS OF THE PLAIN MACHINE: an instruction each, over whole numbers. By program (wip/p63/mkB.py). -/
def uZ (f : Nat → Int) (k : Nat) (v : Int) : Nat → Int := fun j => if j = k then v else f j
theorem uZ_upd (f : Nat → Int) (k : Nat) (v : Int) : upd (fun j => iI (f j)) k (iI v) = fun j => iI (uZ f k v j) := by
  funext j
  unfold upd uZ
  by_cases e : j = k
  · rw [if_pos e, if_pos e]
  · rw [if_neg e, if_neg e]
theorem uZ_at (f : Nat → Int) (k : Nat) (v : Int) : uZ f k v k = v := if_pos rfl
theorem uZ_ne {f : Nat → Int} {j k : Nat} {v : Int} (h : j ≠ k) : uZ f k v j = f j := if_neg h
/-- a place of a world behind what lies before it -/
theorem gA {pre l : pW} {m k : Nat} {c : pCell} (hm : pre.length = m) (h : l[k]? = some c) : (pre ++ l)[m + k]? = some c := by
  subst hm
  rw [List.getElem?_append_right (Nat.le_add_right _ _), Nat.add_sub_cancel_left]
  exact h
theorem gA0 {pre l : pW} {m : Nat} {c : pCell} (hm : pre.length = m) (h : l[0]? = some c) : (pre ++ l)[m]? = some c := gA (k := 0) hm h
theorem gS {pre l l' : pW} {m k : Nat} {c : pCell} (hm : pre.length = m) (h : l.set k c = l') : (pre ++ l).set (m + k) c = pre ++ l' := by
  subst hm
  subst h
  rw [List.set_append_right _ _ (Nat.le_add_right _ _), Nat.add_sub_cancel_left]
theorem gS0 {pre l l' : pW} {m : Nat} {c : pCell} (hm : pre.length = m) (h : l.set 0 c = l') : (pre ++ l).set m c = pre ++ l' := gS (k := 0) hm h
theorem s_iconst {pc : Nat} {lv : pLv} {st : List Value} {w : pW} {v : Nat} {n z : Int} (h : Int32.ofNat v = iI z) : pS1 (.iconst n) pc [v] lv st w = some (.inl (pc + 1, lv, .int (iI z) :: st, w)) := by
  show some (Sum.inl (pc + 1, lv, Value.int (Int32.ofNat v) :: st, w)) = _
  rw [h]
theorem s_bipush {pc : Nat} {lv : pLv} {st : List Value} {w : pW} {v : Nat} {n z : Int} (h : Int32.ofNat v = iI z) : pS1 (.bipush n) pc [v] lv st w = some (.inl (pc + 2, lv, .int (iI z) :: st, w)) := by
  show some (Sum.inl (pc + 2, lv, Value.int (Int32.ofNat v) :: st, w)) = _
  rw [h]
theorem s_sipush {pc : Nat} {lv : pLv} {st : List Value} {w : pW} {v : Nat} {n z : Int} (h : Int32.ofNat v = iI z) : pS1 (.sipush n) pc [v] lv st w = some (.inl (pc + 3, lv, .int (iI z) :: st, w)) := by
  show some (Sum.inl (pc + 3, lv, Value.int (Int32.ofNat v) :: st, w)) = _
  rw [h]
theorem s_ldc {pc : Nat} {lv : pLv} {st : List Value} {w : pW} {v x n : Nat} {z : Int} (h : Int32.ofNat v = iI z) : pS1 (.ldc n) pc [v, x] lv st w = some (.inl (pc + 2, lv, .int (iI z) :: st, w)) := by
  show some (Sum.inl (pc + 2, lv, Value.int (Int32.ofNat v) :: st, w)) = _
  rw [h]
theorem s_ldc_w {pc : Nat} {lv : pLv} {st : List Value} {w : pW} {v x n : Nat} {z : Int} (h : Int32.ofNat v = iI z) : pS1 (.ldc_w n) pc [v, x] lv st w = some (.inl (pc + 3, lv, .int (iI z) :: st, w)) := by
  show some (Sum.inl (pc + 3, lv, Value.int (Int32.ofNat v) :: st, w)) = _
  rw [h]
theorem s_ldc2 {pc : Nat} {lv : pLv} {st : List Value} {w : pW} {v x n : Nat} {y : Int64} (h : Int64.ofNat v = y) : pS1 (.ldc2_w n) pc [v, x] lv st w = some (.inl (pc + 3, lv, .long y :: st, w)) := by
  subst h
  rfl
theorem s_lconst0 {pc : Nat} {lv : pLv} {st : List Value} {w : pW}  : pS1 (.lconst 0) pc [] lv st w = some (.inl (pc + 1, lv, .long (lI 0) :: st, w)) := rfl
theorem s_lconst1 {pc : Nat} {lv : pLv} {st : List Value} {w : pW}  : pS1 (.lconst 1) pc [] lv st w = some (.inl (pc + 1, lv, .long (lI 1) :: st, w)) := rfl
theorem s_null {pc : Nat} {lv : pLv} {st : List Value} {w : pW}  : pS1 .aconst_null pc [] lv st w = some (.inl (pc + 1, lv, .null :: st, w)) := rfl
theorem s_iload_n {pc : Nat} {lv : pLv} {st : List Value} {w : pW} {k : Fin 4} {x : Int32} (h : pGet lv k = some (.int x)) : pS1 (.iload_n k) pc [] lv st w = some (.inl (pc + 1, lv, .int x :: st, w)) := by
  show pLd1 (pc + 1) lv st w (pGet lv k) = _
  rw [h]
  rfl
theorem s_iload {pc : Nat} {lv : pLv} {st : List Value} {w : pW} {k : Nat} {x : Int32} (h : pGet lv k = some (.int x)) : pS1 (.iload k) pc [] lv st w = some (.inl (pc + 2, lv, .int x :: st, w)) := by
  show pLd1 (pc + 2) lv st w (pGet lv k) = _
  rw [h]
  rfl
theorem s_lload_n {pc : Nat} {lv : pLv} {st : List Value} {w : pW} {k : Fin 4} {x : Int64} (h : pGet lv k = some (.long x)) : pS1 (.lload_n k) pc [] lv st w = some (.inl (pc + 1, lv, .long x :: st, w)) := by
  show pLdL (pc + 1) lv st w (pGet lv k) = _
  rw [h]
  rfl
theorem s_lload {pc : Nat} {lv : pLv} {st : List Value} {w : pW} {k : Nat} {x : Int64} (h : pGet lv k = some (.long x)) : pS1 (.lload k) pc [] lv st w = some (.inl (pc + 2, lv, .long x :: st, w)) := by
  show pLdL (pc + 2) lv st w (pGet lv k) = _
  rw [h]
  rfl
theorem s_aload_n {pc : Nat} {lv : pLv} {st : List Value} {w : pW} {k : Fin 4} {x : Nat} (h : pGet lv k = some (.ref x)) : pS1 (.aload_n k) pc [] lv st w = some (.inl (pc + 1, lv, .ref x :: st, w)) := by
  show pLdA (pc + 1) lv st w (pGet lv k) = _
  rw [h]
  rfl
theorem s_aload {pc : Nat} {lv : pLv} {st : List Value} {w : pW} {k : Nat} {x : Nat} (h : pGet lv k = some (.ref x)) : pS1 (.aload k) pc [] lv st w = some (.inl (pc + 2, lv, .ref x :: st, w)) := by
  show pLdA (pc + 2) lv st w (pGet lv k) = _
  rw [h]
  rfl
theorem s_aload_nN {pc : Nat} {lv : pLv} {st : List Value} {w : pW} {k : Fin 4} (h : pGet lv k = some .null) : pS1 (.aload_n k) pc [] lv st w = some (.inl (pc + 1, lv, .null :: st, w)) := by
  show pLdA (pc + 1) lv st w (pGet lv k) = _
  rw [h]
  rfl
theorem s_aloadN {pc : Nat} {lv : pLv} {st : List Value} {w : pW} {k : Nat} (h : pGet lv k = some .null) : pS1 (.aload k) pc [] lv st w = some (.inl (pc + 2, lv, .null :: st, w)) := by
  show pLdA (pc + 2) lv st w (pGet lv k) = _
  rw [h]
  rfl
theorem s_istore_n {pc : Nat} {lv : pLv} {st : List Value} {w : pW} {k : Fin 4} {x : Int32} {lv' : pLv} (h : pSet1 lv k (.int x) = lv') : pS1 (.istore_n k) pc [] lv (.int x :: st) w = some (.inl (pc + 1, lv', st, w)) := by
  subst h
  rfl
theorem s_istore {pc : Nat} {lv : pLv} {st : List Value} {w : pW} {k : Nat} {x : Int32} {lv' : pLv} (h : pSet1 lv k (.int x) = lv') : pS1 (.istore k) pc [] lv (.int x :: st) w = some (.inl (pc + 2, lv', st, w)) := by
  subst h
  rfl
theorem s_lstore_n {pc : Nat} {lv : pLv} {st : List Value} {w : pW} {k : Fin 4} {x : Int64} {lv' : pLv} (h : pSet2 lv k (.long x) = lv') : pS1 (.lstore_n k) pc [] lv (.long x :: st) w = some (.inl (pc + 1, lv', st, w)) := by
  subst h
  rfl
theorem s_lstore {pc : Nat} {lv : pLv} {st : List Value} {w : pW} {k : Nat} {x : Int64} {lv' : pLv} (h : pSet2 lv k (.long x) = lv') : pS1 (.lstore k) pc [] lv (.long x :: st) w = some (.inl (pc + 2, lv', st, w)) := by
  subst h
  rfl
theorem s_astore_n {pc : Nat} {lv : pLv} {st : List Value} {w : pW} {k : Fin 4} {x : Nat} {lv' : pLv} (h : pSet1 lv k (.ref x) = lv') : pS1 (.astore_n k) pc [] lv (.ref x :: st) w = some (.inl (pc + 1, lv', st, w)) := by
  subst h
  rfl
theorem s_astore {pc : Nat} {lv : pLv} {st : List Value} {w : pW} {k : Nat} {x : Nat} {lv' : pLv} (h : pSet1 lv k (.ref x) = lv') : pS1 (.astore k) pc [] lv (.ref x :: st) w = some (.inl (pc + 2, lv', st, w)) := by
  subst h
  rfl
theorem s_astore_nN {pc : Nat} {lv : pLv} {st : List Value} {w : pW} {k : Fin 4} {lv' : pLv} (h : pSet1 lv k .null = lv') : pS1 (.astore_n k) pc [] lv (.null :: st) w = some (.inl (pc + 1, lv', st, w)) := by
  subst h
  rfl
theorem s_astoreN {pc : Nat} {lv : pLv} {st : List Value} {w : pW} {k : Nat} {lv' : pLv} (h : pSet1 lv k .null = lv') : pS1 (.astore k) pc [] lv (.null :: st) w = some (.inl (pc + 2, lv', st, w)) := by
  subst h
  rfl
theorem s_iinc {pc : Nat} {lv : pLv} {st : List Value} {w : pW} {k : Nat} {n x y : Int} {lv' : pLv} (h : pGet lv k = some (.int (iI x))) (hy : x + n = y) (h2 : pSet1 lv k (.int (iI y)) = lv') : pS1 (.iinc k n) pc [] lv st w = some (.inl (pc + 3, lv', st, w)) := by
  subst h2
  subst hy
  show pInc (pc + 3) lv k n st w = _
  unfold pInc
  rw [h]
  show some (Sum.inl (pc + 3, pSet1 lv k (Value.int (iI x + iI n)), st, w)) = _
  rw [iI_add]
theorem s_iadd {pc : Nat} {lv : pLv} {st : List Value} {w : pW} {x y : Int} : pS1 .iadd pc [] lv (.int (iI y) :: .int (iI x) :: st) w = some (.inl (pc + 1, lv, .int (iI (x + y)) :: st, w)) := by
  show some (Sum.inl (pc + 1, lv, Value.int (iI x + iI y) :: st, w)) = _
  rw [iI_add]
theorem s_isub {pc : Nat} {lv : pLv} {st : List Value} {w : pW} {x y : Int} : pS1 .isub pc [] lv (.int (iI y) :: .int (iI x) :: st) w = some (.inl (pc + 1, lv, .int (iI (x - y)) :: st, w)) := by
  show some (Sum.inl (pc + 1, lv, Value.int (iI x - iI y) :: st, w)) = _
  rw [iI_sub]
theorem s_imul {pc : Nat} {lv : pLv} {st : List Value} {w : pW} {x y : Int} : pS1 .imul pc [] lv (.int (iI y) :: .int (iI x) :: st) w = some (.inl (pc + 1, lv, .int (iI (x * y)) :: st, w)) := by
  show some (Sum.inl (pc + 1, lv, Value.int (iI x * iI y) :: st, w)) = _
  rw [iI_mul]
theorem s_ladd {pc : Nat} {lv : pLv} {st : List Value} {w : pW} {x y : Int} : pS1 .ladd pc [] lv (.long (lI y) :: .long (lI x) :: st) w = some (.inl (pc + 1, lv, .long (lI (x + y)) :: st, w)) := by
  show some (Sum.inl (pc + 1, lv, Value.long (lI x + lI y) :: st, w)) = _
  rw [lI_add]
theorem s_lsub {pc : Nat} {lv : pLv} {st : List Value} {w : pW} {x y : Int} : pS1 .lsub pc [] lv (.long (lI y) :: .long (lI x) :: st) w = some (.inl (pc + 1, lv, .long (lI (x - y)) :: st, w)) := by
  show some (Sum.inl (pc + 1, lv, Value.long (lI x - lI y) :: st, w)) = _
  rw [lI_sub]
theorem s_lmul {pc : Nat} {lv : pLv} {st : List Value} {w : pW} {x y : Int} : pS1 .lmul pc [] lv (.long (lI y) :: .long (lI x) :: st) w = some (.inl (pc + 1, lv, .long (lI (x * y)) :: st, w)) := by
  show some (Sum.inl (pc + 1, lv, Value.long (lI x * lI y) :: st, w)) = _
  rw [lI_mul]
theorem s_land {pc : Nat} {lv : pLv} {st : List Value} {w : pW} {x y : Int64} : pS1 .land pc [] lv (.long y :: .long x :: st) w = some (.inl (pc + 1, lv, .long (x &&& y) :: st, w)) := rfl
theorem s_lor {pc : Nat} {lv : pLv} {st : List Value} {w : pW} {x y : Int64} : pS1 .lor pc [] lv (.long y :: .long x :: st) w = some (.inl (pc + 1, lv, .long (x ||| y) :: st, w)) := rfl
theorem s_lxor {pc : Nat} {lv : pLv} {st : List Value} {w : pW} {x y : Int64} : pS1 .lxor pc [] lv (.long y :: .long x :: st) w = some (.inl (pc + 1, lv, .long (x ^^^ y) :: st, w)) := rfl
theorem s_iand {pc : Nat} {lv : pLv} {st : List Value} {w : pW} {x y : Int32} : pS1 .iand pc [] lv (.int y :: .int x :: st) w = some (.inl (pc + 1, lv, .int (x &&& y) :: st, w)) := rfl
theorem s_ior {pc : Nat} {lv : pLv} {st : List Value} {w : pW} {x y : Int32} : pS1 .ior pc [] lv (.int y :: .int x :: st) w = some (.inl (pc + 1, lv, .int (x ||| y) :: st, w)) := rfl
theorem s_ixor {pc : Nat} {lv : pLv} {st : List Value} {w : pW} {x y : Int32} : pS1 .ixor pc [] lv (.int y :: .int x :: st) w = some (.inl (pc + 1, lv, .int (x ^^^ y) :: st, w)) := rfl
theorem s_ishl {pc : Nat} {lv : pLv} {st : List Value} {w : pW} {x y : Int32} : pS1 .ishl pc [] lv (.int y :: .int x :: st) w = some (.inl (pc + 1, lv, .int (x <<< (y &&& 31)) :: st, w)) := rfl
theorem s_ishr {pc : Nat} {lv : pLv} {st : List Value} {w : pW} {x y : Int32} : pS1 .ishr pc [] lv (.int y :: .int x :: st) w = some (.inl (pc + 1, lv, .int (x >>> (y &&& 31)) :: st, w)) := rfl
theorem s_iushr {pc : Nat} {lv : pLv} {st : List Value} {w : pW} {x y : Int32} : pS1 .iushr pc [] lv (.int y :: .int x :: st) w = some (.inl (pc + 1, lv, .int (x.toUInt32 >>> (y.toUInt32 &&& Int32.toUInt32 31)).toInt32 :: st, w)) := rfl
theorem s_lushr {pc : Nat} {lv : pLv} {st : List Value} {w : pW} {x : Int64} {y : Int32} : pS1 .lushr pc [] lv (.int y :: .long x :: st) w = some (.inl (pc + 1, lv, .long ((x.toUInt64 >>> (y.toInt64.toUInt64 &&& Int64.toUInt64 63)).toInt64) :: st, w)) := rfl
theorem s_lshl {pc : Nat} {lv : pLv} {st : List Value} {w : pW} {x : Int64} {y : Int32} : pS1 .lshl pc [] lv (.int y :: .long x :: st) w = some (.inl (pc + 1, lv, .long (x <<< (y.toInt64 &&& 63)) :: st, w)) := rfl
theorem s_idiv {pc : Nat} {lv : pLv} {st : List Value} {w : pW} {x y z : Int} (hx : sm x) (hy : sm y) (h0 : y ≠ 0) (hm : x ≠ -2147483648) (hz : x.tdiv y = z) : pS1 .idiv pc [] lv (.int (iI y) :: .int (iI x) :: st) w = some (.inl (pc + 1, lv, .int (iI z) :: st, w)) := by
  subst hz
  rw [← iI_div hx hy h0 hm]
  show pDiv (pc + 1) lv (.int (iI y) :: .int (iI x) :: st) w (fun x y => x / y) = _
  unfold pDiv
  have : ¬ iI y = 0 := fun e => h0 ((iI_eq hy (by constructor <;> decide)).mp e)
  simp only [this, decide_false, cond_false]
  rfl
theorem s_irem {pc : Nat} {lv : pLv} {st : List Value} {w : pW} {x y z : Int} (hx : sm x) (hy : sm y) (h0 : y ≠ 0) (hm : x ≠ -2147483648) (hz : x.tmod y = z) : pS1 .irem pc [] lv (.int (iI y) :: .int (iI x) :: st) w = some (.inl (pc + 1, lv, .int (iI z) :: st, w)) := by
  subst hz
  rw [← iI_rem hx hy h0 hm]
  show pDiv (pc + 1) lv (.int (iI y) :: .int (iI x) :: st) w (fun x y => x - x / y * y) = _
  unfold pDiv
  have : ¬ iI y = 0 := fun e => h0 ((iI_eq hy (by constructor <;> decide)).mp e)
  simp only [this, decide_false, cond_false]
  rfl
theorem s_ineg {pc : Nat} {lv : pLv} {st : List Value} {w : pW} {x : Int} : pS1 .ineg pc [] lv (.int (iI x) :: st) w = some (.inl (pc + 1, lv, .int (iI (-x)) :: st, w)) := by
  show some (Sum.inl (pc + 1, lv, Value.int (-iI x) :: st, w)) = _
  rw [iI_neg]
theorem s_i2l {pc : Nat} {lv : pLv} {st : List Value} {w : pW} {x : Int} (h : sm x) : pS1 .i2l pc [] lv (.int (iI x) :: st) w = some (.inl (pc + 1, lv, .long (lI x) :: st, w)) := by
  show some (Sum.inl (pc + 1, lv, Value.long (iI x).toInt64 :: st, w)) = _
  rw [iI_l h]
theorem s_l2i {pc : Nat} {lv : pLv} {st : List Value} {w : pW} {x : Int} : pS1 .l2i pc [] lv (.long (lI x) :: st) w = some (.inl (pc + 1, lv, .int (iI x) :: st, w)) := by
  show some (Sum.inl (pc + 1, lv, Value.int (lI x).toInt32 :: st, w)) = _
  rw [lI_i]
theorem s_lcmp {pc : Nat} {lv : pLv} {st : List Value} {w : pW} {x y : Int64} : pS1 .lcmp pc [] lv (.long y :: .long x :: st) w = some (.inl (pc + 1, lv, .int (lg_cmp x y) :: st, w)) := rfl
theorem s_lcmp_lt {pc : Nat} {lv : pLv} {st : List Value} {w : pW} {x y : Int} (hx : sl x) (hy : sl y) (h : x < y) : pS1 .lcmp pc [] lv (.long (lI y) :: .long (lI x) :: st) w = some (.inl (pc + 1, lv, .int (iI (-1)) :: st, w)) := by
  rw [← lg_lt hx hy h]
  rfl
theorem s_lcmp_eq {pc : Nat} {lv : pLv} {st : List Value} {w : pW} {x y : Int} (h : x = y) : pS1 .lcmp pc [] lv (.long (lI y) :: .long (lI x) :: st) w = some (.inl (pc + 1, lv, .int (iI 0) :: st, w)) := by
  rw [← lg_eq h]
  rfl
theorem s_lcmp_gt {pc : Nat} {lv : pLv} {st : List Value} {w : pW} {x y : Int} (hx : sl x) (hy : sl y) (h : y < x) : pS1 .lcmp pc [] lv (.long (lI y) :: .long (lI x) :: st) w = some (.inl (pc + 1, lv, .int (iI 1) :: st, w)) := by
  rw [← lg_gt hx hy h]
  rfl
theorem s_dup {pc : Nat} {lv : pLv} {st : List Value} {w : pW} {v : Value} (h : v.category = 1) : pS1 .dup pc [] lv (v :: st) w = some (.inl (pc + 1, lv, v :: v :: st, w)) := by
  show (bif Nat.beq v.category 1 then pGo1 (pc + 1) lv (v :: v :: st) w else none) = _
  rw [h]
  rfl
theorem s_pop {pc : Nat} {lv : pLv} {st : List Value} {w : pW} {v : Value} (h : v.category = 1) : pS1 .pop pc [] lv (v :: st) w = some (.inl (pc + 1, lv, st, w)) := by
  show (bif Nat.beq v.category 1 then pGo1 (pc + 1) lv st w else none) = _
  rw [h]
  rfl
theorem s_dup2 {pc : Nat} {lv : pLv} {st : List Value} {w : pW} {a : Nat} {i : Int32} : pS1 .dup2 pc [] lv (.int i :: .ref a :: st) w = some (.inl (pc + 1, lv, .int i :: .ref a :: .int i :: .ref a :: st, w)) := rfl
theorem s_dup2l {pc : Nat} {lv : pLv} {st : List Value} {w : pW} {x : Int64} : pS1 .dup2 pc [] lv (.long x :: st) w = some (.inl (pc + 1, lv, .long x :: .long x :: st, w)) := rfl
theorem s_icmp_eq_t {pc : Nat} {lv : pLv} {st : List Value} {w : pW} {t : Nat} {off x y : Int} (hx : sm x) (hy : sm y) (h : x = y) : pS1 (.if_icmp .eq off) pc [t] lv (.int (iI y) :: .int (iI x) :: st) w = some (.inl (t, lv, st, w)) := by
  have h2 : decide (iI x = iI y) = true := decide_eq_true ((iI_eq hx hy).mpr h)
  show (bif decide (iI x = iI y) then pGo1 t lv st w else pGo1 (pc + 3) lv st w) = _
  rw [h2]
  rfl
theorem s_if_eq_t {pc : Nat} {lv : pLv} {st : List Value} {w : pW} {t : Nat} {off x : Int} (hx : sm x) (h : x = 0) : pS1 (.ifCond .eq off) pc [t] lv (.int (iI x) :: st) w = some (.inl (t, lv, st, w)) := by
  have hy : sm 0 := by constructor <;> decide
  have h2 : decide (iI x = (0 : Int32)) = true := decide_eq_true ((iI_eq hx hy).mpr h)
  show (bif decide (iI x = (0 : Int32)) then pGo1 t lv st w else pGo1 (pc + 3) lv st w) = _
  rw [h2]
  rfl
theorem s_icmp_eq_f {pc : Nat} {lv : pLv} {st : List Value} {w : pW} {t : Nat} {off x y : Int} (hx : sm x) (hy : sm y) (h : ¬ (x = y)) : pS1 (.if_icmp .eq off) pc [t] lv (.int (iI y) :: .int (iI x) :: st) w = some (.inl (pc + 3, lv, st, w)) := by
  have h2 : decide (iI x = iI y) = false := decide_eq_false (fun e => h ((iI_eq hx hy).mp e))
  show (bif decide (iI x = iI y) then pGo1 t lv st w else pGo1 (pc + 3) lv st w) = _
  rw [h2]
  rfl
theorem s_if_eq_f {pc : Nat} {lv : pLv} {st : List Value} {w : pW} {t : Nat} {off x : Int} (hx : sm x) (h : ¬ (x = 0)) : pS1 (.ifCond .eq off) pc [t] lv (.int (iI x) :: st) w = some (.inl (pc + 3, lv, st, w)) := by
  have hy : sm 0 := by constructor <;> decide
  have h2 : decide (iI x = (0 : Int32)) = false := decide_eq_false (fun e => h ((iI_eq hx hy).mp e))
  show (bif decide (iI x = (0 : Int32)) then pGo1 t lv st w else pGo1 (pc + 3) lv st w) = _
  rw [h2]
  rfl
theorem s_icmp_ne_t {pc : Nat} {lv : pLv} {st : List Value} {w : pW} {t : Nat} {off x y : Int} (hx : sm x) (hy : sm y) (h : ¬ x = y) : pS1 (.if_icmp .ne off) pc [t] lv (.int (iI y) :: .int (iI x) :: st) w = some (.inl (t, lv, st, w)) := by
  have h2 : decide (¬ iI x = iI y) = true := decide_eq_true ((not_congr (iI_eq hx hy)).mpr h)
  show (bif decide (¬ iI x = iI y) then pGo1 t lv st w else pGo1 (pc + 3) lv st w) = _
  rw [h2]
  rfl
theorem s_if_ne_t {pc : Nat} {lv : pLv} {st : List Value} {w : pW} {t : Nat} {off x : Int} (hx : sm x) (h : ¬ x = 0) : pS1 (.ifCond .ne off) pc [t] lv (.int (iI x) :: st) w = some (.inl (t, lv, st, w)) := by
  have hy : sm 0 := by constructor <;> decide
  have h2 : decide (¬ iI x = (0 : Int32)) = true := decide_eq_true ((not_congr (iI_eq hx hy)).mpr h)
  show (bif decide (¬ iI x = (0 : Int32)) then pGo1 t lv st w else pGo1 (pc + 3) lv st w) = _
  rw [h2]
  rfl
theorem s_icmp_ne_f {pc : Nat} {lv : pLv} {st : List Value} {w : pW} {t : Nat} {off x y : Int} (hx : sm x) (hy : sm y) (h : ¬ (¬ x = y)) : pS1 (.if_icmp .ne off) pc [t] lv (.int (iI y) :: .int (iI x) :: st) w = some (.inl (pc + 3, lv, st, w)) := by
  have h2 : decide (¬ iI x = iI y) = false := decide_eq_false (fun e => h ((not_congr (iI_eq hx hy)).mp e))
  show (bif decide (¬ iI x = iI y) then pGo1 t lv st w else pGo1 (pc + 3) lv st w) = _
  rw [h2]
  rfl
theorem s_if_ne_f {pc : Nat} {lv : pLv} {st : List Value} {w : pW} {t : Nat} {off x : Int} (hx : sm x) (h : ¬ (¬ x = 0)) : pS1 (.ifCond .ne off) pc [t] lv (.int (iI x) :: st) w = some (.inl (pc + 3, lv, st, w)) := by
  have hy : sm 0 := by constructor <;> decide
  have h2 : decide (¬ iI x = (0 : Int32)) = false := decide_eq_false (fun e => h ((not_congr (iI_eq hx hy)).mp e))
  show (bif decide (¬ iI x = (0 : Int32)) then pGo1 t lv st w else pGo1 (pc + 3) lv st w) = _
  rw [h2]
  rfl
theorem s_icmp_lt_t {pc : Nat} {lv : pLv} {st : List Value} {w : pW} {t : Nat} {off x y : Int} (hx : sm x) (hy : sm y) (h : x < y) : pS1 (.if_icmp .lt off) pc [t] lv (.int (iI y) :: .int (iI x) :: st) w = some (.inl (t, lv, st, w)) := by
  have h2 : decide (iI x < iI y) = true := decide_eq_true ((iI_lt hx hy).mpr h)
  show (bif decide (iI x < iI y) then pGo1 t lv st w else pGo1 (pc + 3) lv st w) = _
  rw [h2]
  rfl
theorem s_if_lt_t {pc : Nat} {lv : pLv} {st : List Value} {w : pW} {t : Nat} {off x : Int} (hx : sm x) (h : x < 0) : pS1 (.ifCond .lt off) pc [t] lv (.int (iI x) :: st) w = some (.inl (t, lv, st, w)) := by
  have hy : sm 0 := by constructor <;> decide
  have h2 : decide (iI x < (0 : Int32)) = true := decide_eq_true ((iI_lt hx hy).mpr h)
  show (bif decide (iI x < (0 : Int32)) then pGo1 t lv st w else pGo1 (pc + 3) lv st w) = _
  rw [h2]
  rfl
theorem s_icmp_lt_f {pc : Nat} {lv : pLv} {st : List Value} {w : pW} {t : Nat} {off x y : Int} (hx : sm x) (hy : sm y) (h : ¬ (x < y)) : pS1 (.if_icmp .lt off) pc [t] lv (.int (iI y) :: .int (iI x) :: st) w = some (.inl (pc + 3, lv, st, w)) := by
  have h2 : decide (iI x < iI y) = false := decide_eq_false (fun e => h ((iI_lt hx hy).mp e))
  show (bif decide (iI x < iI y) then pGo1 t lv st w else pGo1 (pc + 3) lv st w) = _
  rw [h2]
  rfl
theorem s_if_lt_f {pc : Nat} {lv : pLv} {st : List Value} {w : pW} {t : Nat} {off x : Int} (hx : sm x) (h : ¬ (x < 0)) : pS1 (.ifCond .lt off) pc [t] lv (.int (iI x) :: st) w = some (.inl (pc + 3, lv, st, w)) := by
  have hy : sm 0 := by constructor <;> decide
  have h2 : decide (iI x < (0 : Int32)) = false := decide_eq_false (fun e => h ((iI_lt hx hy).mp e))
  show (bif decide (iI x < (0 : Int32)) then pGo1 t lv st w else pGo1 (pc + 3) lv st w) = _
  rw [h2]
  rfl
theorem s_icmp_ge_t {pc : Nat} {lv : pLv} {st : List Value} {w : pW} {t : Nat} {off x y : Int} (hx : sm x) (hy : sm y) (h : y ≤ x) : pS1 (.if_icmp .ge off) pc [t] lv (.int (iI y) :: .int (iI x) :: st) w = some (.inl (t, lv, st, w)) := by
  have h2 : decide (iI y ≤ iI x) = true := decide_eq_true ((iI_le hy hx).mpr h)
  show (bif decide (iI y ≤ iI x) then pGo1 t lv st w else pGo1 (pc + 3) lv st w) = _
  rw [h2]
  rfl
theorem s_if_ge_t {pc : Nat} {lv : pLv} {st : List Value} {w : pW} {t : Nat} {off x : Int} (hx : sm x) (h : 0 ≤ x) : pS1 (.ifCond .ge off) pc [t] lv (.int (iI x) :: st) w = some (.inl (t, lv, st, w)) := by
  have hy : sm 0 := by constructor <;> decide
  have h2 : decide ((0 : Int32) ≤ iI x) = true := decide_eq_true ((iI_le hy hx).mpr h)
  show (bif decide ((0 : Int32) ≤ iI x) then pGo1 t lv st w else pGo1 (pc + 3) lv st w) = _
  rw [h2]
  rfl
theorem s_icmp_ge_f {pc : Nat} {lv : pLv} {st : List Value} {w : pW} {t : Nat} {off x y : Int} (hx : sm x) (hy : sm y) (h : ¬ (y ≤ x)) : pS1 (.if_icmp .ge off) pc [t] lv (.int (iI y) :: .int (iI x) :: st) w = some (.inl (pc + 3, lv, st, w)) := by
  have h2 : decide (iI y ≤ iI x) = false := decide_eq_false (fun e => h ((iI_le hy hx).mp e))
  show (bif decide (iI y ≤ iI x) then pGo1 t lv st w else pGo1 (pc + 3) lv st w) = _
  rw [h2]
  rfl
theorem s_if_ge_f {pc : Nat} {lv : pLv} {st : List Value} {w : pW} {t : Nat} {off x : Int} (hx : sm x) (h : ¬ (0 ≤ x)) : pS1 (.ifCond .ge off) pc [t] lv (.int (iI x) :: st) w = some (.inl (pc + 3, lv, st, w)) := by
  have hy : sm 0 := by constructor <;> decide
  have h2 : decide ((0 : Int32) ≤ iI x) = false := decide_eq_false (fun e => h ((iI_le hy hx).mp e))
  show (bif decide ((0 : Int32) ≤ iI x) then pGo1 t lv st w else pGo1 (pc + 3) lv st w) = _
  rw [h2]
  rfl
theorem s_icmp_gt_t {pc : Nat} {lv : pLv} {st : List Value} {w : pW} {t : Nat} {off x y : Int} (hx : sm x) (hy : sm y) (h : y < x) : pS1 (.if_icmp .gt off) pc [t] lv (.int (iI y) :: .int (iI x) :: st) w = some (.inl (t, lv, st, w)) := by
  have h2 : decide (iI y < iI x) = true := decide_eq_true ((iI_lt hy hx).mpr h)
  show (bif decide (iI y < iI x) then pGo1 t lv st w else pGo1 (pc + 3) lv st w) = _
  rw [h2]
  rfl
theorem s_if_gt_t {pc : Nat} {lv : pLv} {st : List Value} {w : pW} {t : Nat} {off x : Int} (hx : sm x) (h : 0 < x) : pS1 (.ifCond .gt off) pc [t] lv (.int (iI x) :: st) w = some (.inl (t, lv, st, w)) := by
  have hy : sm 0 := by constructor <;> decide
  have h2 : decide ((0 : Int32) < iI x) = true := decide_eq_true ((iI_lt hy hx).mpr h)
  show (bif decide ((0 : Int32) < iI x) then pGo1 t lv st w else pGo1 (pc + 3) lv st w) = _
  rw [h2]
  rfl
theorem s_icmp_gt_f {pc : Nat} {lv : pLv} {st : List Value} {w : pW} {t : Nat} {off x y : Int} (hx : sm x) (hy : sm y) (h : ¬ (y < x)) : pS1 (.if_icmp .gt off) pc [t] lv (.int (iI y) :: .int (iI x) :: st) w = some (.inl (pc + 3, lv, st, w)) := by
  have h2 : decide (iI y < iI x) = false := decide_eq_false (fun e => h ((iI_lt hy hx).mp e))
  show (bif decide (iI y < iI x) then pGo1 t lv st w else pGo1 (pc + 3) lv st w) = _
  rw [h2]
  rfl
theorem s_if_gt_f {pc : Nat} {lv : pLv} {st : List Value} {w : pW} {t : Nat} {off x : Int} (hx : sm x) (h : ¬ (0 < x)) : pS1 (.ifCond .gt off) pc [t] lv (.int (iI x) :: st) w = some (.inl (pc + 3, lv, st, w)) := by
  have hy : sm 0 := by constructor <;> decide
  have h2 : decide ((0 : Int32) < iI x) = false := decide_eq_false (fun e => h ((iI_lt hy hx).mp e))
  show (bif decide ((0 : Int32) < iI x) then pGo1 t lv st w else pGo1 (pc + 3) lv st w) = _
  rw [h2]
  rfl
theorem s_icmp_le_t {pc : Nat} {lv : pLv} {st : List Value} {w : pW} {t : Nat} {off x y : Int} (hx : sm x) (hy : sm y) (h : x ≤ y) : pS1 (.if_icmp .le off) pc [t] lv (.int (iI y) :: .int (iI x) :: st) w = some (.inl (t, lv, st, w)) := by
  have h2 : decide (iI x ≤ iI y) = true := decide_eq_true ((iI_le hx hy).mpr h)
  show (bif decide (iI x ≤ iI y) then pGo1 t lv st w else pGo1 (pc + 3) lv st w) = _
  rw [h2]
  rfl
theorem s_if_le_t {pc : Nat} {lv : pLv} {st : List Value} {w : pW} {t : Nat} {off x : Int} (hx : sm x) (h : x ≤ 0) : pS1 (.ifCond .le off) pc [t] lv (.int (iI x) :: st) w = some (.inl (t, lv, st, w)) := by
  have hy : sm 0 := by constructor <;> decide
  have h2 : decide (iI x ≤ (0 : Int32)) = true := decide_eq_true ((iI_le hx hy).mpr h)
  show (bif decide (iI x ≤ (0 : Int32)) then pGo1 t lv st w else pGo1 (pc + 3) lv st w) = _
  rw [h2]
  rfl
theorem s_icmp_le_f {pc : Nat} {lv : pLv} {st : List Value} {w : pW} {t : Nat} {off x y : Int} (hx : sm x) (hy : sm y) (h : ¬ (x ≤ y)) : pS1 (.if_icmp .le off) pc [t] lv (.int (iI y) :: .int (iI x) :: st) w = some (.inl (pc + 3, lv, st, w)) := by
  have h2 : decide (iI x ≤ iI y) = false := decide_eq_false (fun e => h ((iI_le hx hy).mp e))
  show (bif decide (iI x ≤ iI y) then pGo1 t lv st w else pGo1 (pc + 3) lv st w) = _
  rw [h2]
  rfl
theorem s_if_le_f {pc : Nat} {lv : pLv} {st : List Value} {w : pW} {t : Nat} {off x : Int} (hx : sm x) (h : ¬ (x ≤ 0)) : pS1 (.ifCond .le off) pc [t] lv (.int (iI x) :: st) w = some (.inl (pc + 3, lv, st, w)) := by
  have hy : sm 0 := by constructor <;> decide
  have h2 : decide (iI x ≤ (0 : Int32)) = false := decide_eq_false (fun e => h ((iI_le hx hy).mp e))
  show (bif decide (iI x ≤ (0 : Int32)) then pGo1 t lv st w else pGo1 (pc + 3) lv st w) = _
  rw [h2]
  rfl
theorem s_ifeq_true {pc : Nat} {lv : pLv} {st : List Value} {w : pW} {t : Nat} {off : Int} {b : Bool} (h : b = true) : pS1 (.ifCond .eq off) pc [t] lv (.int (bI b) :: st) w = some (.inl (pc + 3, lv, st, w)) := by
  subst h
  rfl
theorem s_ifeq_false {pc : Nat} {lv : pLv} {st : List Value} {w : pW} {t : Nat} {off : Int} {b : Bool} (h : b = false) : pS1 (.ifCond .eq off) pc [t] lv (.int (bI b) :: st) w = some (.inl (t, lv, st, w)) := by
  subst h
  rfl
theorem s_ifne_true {pc : Nat} {lv : pLv} {st : List Value} {w : pW} {t : Nat} {off : Int} {b : Bool} (h : b = true) : pS1 (.ifCond .ne off) pc [t] lv (.int (bI b) :: st) w = some (.inl (t, lv, st, w)) := by
  subst h
  rfl
theorem s_ifne_false {pc : Nat} {lv : pLv} {st : List Value} {w : pW} {t : Nat} {off : Int} {b : Bool} (h : b = false) : pS1 (.ifCond .ne off) pc [t] lv (.int (bI b) :: st) w = some (.inl (pc + 3, lv, st, w)) := by
  subst h
  rfl
theorem s_goto {pc : Nat} {lv : pLv} {st : List Value} {w : pW} {t : Nat} {off : Int} : pS1 (.goto off) pc [t] lv st w = some (.inl (t, lv, st, w)) := rfl
theorem s_ifnull_t {pc : Nat} {lv : pLv} {st : List Value} {w : pW} {t : Nat} {off : Int} : pS1 (.ifnull off) pc [t] lv (.null :: st) w = some (.inl (t, lv, st, w)) := rfl
theorem s_ifnull_f {pc : Nat} {lv : pLv} {st : List Value} {w : pW} {t a : Nat} {off : Int} : pS1 (.ifnull off) pc [t] lv (.ref a :: st) w = some (.inl (pc + 3, lv, st, w)) := rfl
theorem s_ifnonnull_t {pc : Nat} {lv : pLv} {st : List Value} {w : pW} {t a : Nat} {off : Int} : pS1 (.ifnonnull off) pc [t] lv (.ref a :: st) w = some (.inl (t, lv, st, w)) := rfl
theorem s_ifnonnull_f {pc : Nat} {lv : pLv} {st : List Value} {w : pW} {t : Nat} {off : Int} : pS1 (.ifnonnull off) pc [t] lv (.null :: st) w = some (.inl (pc + 3, lv, st, w)) := rfl
theorem s_getf {pc : Nat} {lv : pLv} {st : List Value} {w : pW} {idx ci k e a : Nat} {fs : List Value} {v : Value} (hw : w[a]? = some (.inr (ci, fs))) (hv : fs[k]? = some v) : pS1 (.getfield idx) pc [ci, k, e] lv (.ref a :: st) w = some (.inl (pc + 3, lv, v :: st, w)) := ps_getf (e := e) hw hv
theorem s_putf {pc : Nat} {lv : pLv} {st : List Value} {w : pW} {idx ci k e a : Nat} {fs : List Value} {v : Value} {w' : pW} (hw : w[a]? = some (.inr (ci, fs))) (hk : k < fs.length) (hf : pFits (pTf ci k) v = true) (hs : w.set a (.inr (ci, fs.set k v)) = w') : pS1 (.putfield idx) pc [ci, k, e] lv (v :: .ref a :: st) w = some (.inl (pc + 3, lv, st, w')) := by
  subst hs
  exact ps_putf (e := e) hw hk hf
theorem s_iald {pc : Nat} {lv : pLv} {st : List Value} {w : pW} {a n k : Nat} {f : Nat → Int} {z v : Int} (hw : w[a]? = some (.inl (0, n, .inl (fun j => iI (f j))))) (hz : z = (k : Int)) (hk : k < n) (hn : n ≤ 2147483648) (hv : f k = v) : pS1 .iaload pc [] lv (.int (iI z) :: .ref a :: st) w = some (.inl (pc + 1, lv, .int (iI v) :: st, w)) := by
  subst hv
  have h := ps_ald (pc := pc + 1) (lv := lv) (st := st) (kd := 0) hw (iI_in hz hk hn)
  rw [iI_idx hz (by omega)] at h
  exact h
theorem s_zald {pc : Nat} {lv : pLv} {st : List Value} {w : pW} {a n k : Nat} {f : Nat → Int32} {z : Int} (hw : w[a]? = some (.inl (2, n, .inl f))) (hz : z = (k : Int)) (hk : k < n) (hn : n ≤ 2147483648) : pS1 .baload pc [] lv (.int (iI z) :: .ref a :: st) w = some (.inl (pc + 1, lv, .int (f k) :: st, w)) := by
  have h := ps_ald (pc := pc + 1) (lv := lv) (st := st) (kd := 2) hw (iI_in hz hk hn)
  rw [iI_idx hz (by omega)] at h
  exact h
theorem s_lald {pc : Nat} {lv : pLv} {st : List Value} {w : pW} {a n k : Nat} {f : Nat → Int64} {z : Int} {v : Int64} (hw : w[a]? = some (.inl (1, n, .inr (.inl f)))) (hz : z = (k : Int)) (hk : k < n) (hn : n ≤ 2147483648) (hv : f k = v) : pS1 .laload pc [] lv (.int (iI z) :: .ref a :: st) w = some (.inl (pc + 1, lv, .long v :: st, w)) := by
  subst hv
  have h := ps_aldl (pc := pc + 1) (lv := lv) (st := st) hw (iI_in hz hk hn)
  rw [iI_idx hz (by omega)] at h
  exact h
theorem s_iast {pc : Nat} {lv : pLv} {st : List Value} {w : pW} {a n k : Nat} {f : Nat → Int} {z v : Int} {w' : pW} (hw : w[a]? = some (.inl (0, n, .inl (fun j => iI (f j))))) (hz : z = (k : Int)) (hk : k < n) (hn : n ≤ 2147483648) (hs : w.set a (.inl (0, n, .inl (fun j => iI (uZ f k v j)))) = w') : pS1 .iastore pc [] lv (.int (iI v) :: .int (iI z) :: .ref a :: st) w = some (.inl (pc + 1, lv, st, w')) := by
  subst hs
  have h := ps_ast (pc := pc + 1) (lv := lv) (st := st) (y := iI v) hw (iI_in hz hk hn)
  rw [iI_idx hz (by omega), uZ_upd] at h
  exact h
theorem s_last {pc : Nat} {lv : pLv} {st : List Value} {w : pW} {a n k : Nat} {f : Nat → Int64} {z : Int} {v : Int64} {w' : pW} (hw : w[a]? = some (.inl (1, n, .inr (.inl f)))) (hz : z = (k : Int)) (hk : k < n) (hn : n ≤ 2147483648) (hs : w.set a (.inl (1, n, .inr (.inl (vp_updL f k v)))) = w') : pS1 .lastore pc [] lv (.long v :: .int (iI z) :: .ref a :: st) w = some (.inl (pc + 1, lv, st, w')) := by
  subst hs
  have h := ps_astl (pc := pc + 1) (lv := lv) (st := st) (y := v) hw (iI_in hz hk hn)
  rw [iI_idx hz (by omega)] at h
  exact h
theorem s_alen {pc : Nat} {lv : pLv} {st : List Value} {w : pW} {k a n : Nat} {x : vp_A} (hw : w[a]? = some (.inl (k, x))) (hn : x.1 = n) (hk : Nat.ble k 5 = true) : pS1 .arraylength pc [] lv (.ref a :: st) w = some (.inl (pc + 1, lv, .int (iI (n : Int)) :: st, w)) := by
  subst hn
  show pALen (pc + 1) lv (.ref a :: st) w = _
  unfold pALen pGo1
  simp only [hw, hk, Bool.true_or, cond_true]
  rw [show Int32.ofNat x.1 = iI (x.1 : Int) from iI_n x.1]
theorem s_alen6 {pc : Nat} {lv : pLv} {st : List Value} {w : pW} {a n : Nat} {x : vp_A} (hw : w[a]? = some (.inl (6, x))) (hn : x.1 = n) (h0 : a = 0) : pS1 .arraylength pc [] lv (.ref a :: st) w = some (.inl (pc + 1, lv, .int (iI (n : Int)) :: st, w)) := by
  subst hn
  subst h0
  show pALen (pc + 1) lv (.ref 0 :: st) w = _
  unfold pALen pGo1
  simp only [hw, Nat.beq_refl, Bool.and_self, Bool.or_true, cond_true]
  rw [show Int32.ofNat x.1 = iI (x.1 : Int) from iI_n x.1]
theorem s_iald6 {pc : Nat} {lv : pLv} {st : List Value} {w : pW} {a n k : Nat} {f : Nat → Int} {z v : Int} (hw : w[a]? = some (.inl (6, n, .inl (fun j => iI (f j))))) (h0 : a = 0) (hz : z = (k : Int)) (hk : k < n) (hn : n ≤ 2147483648) (hv : f k = v) : pS1 .iaload pc [] lv (.int (iI z) :: .ref a :: st) w = some (.inl (pc + 1, lv, .int (iI v) :: st, w)) := by
  subst hv
  subst h0
  have h := ps_ald6 (pc := pc + 1) (lv := lv) (st := st) hw (iI_in hz hk hn)
  rw [iI_idx hz (by omega)] at h
  exact h
theorem s_invV {pc : Nat} {lv : pLv} {st : List Value} {w : pW} {idx j n e ci mx a : Nat} {as rest fs : List Value} (hp : pArgs n [] st = some (as, .ref a :: rest)) (hw : w[a]? = some (.inr (ci, fs))) (h8 : Nat.ble (pCat rest) 8 = true) (hm : Nat.ble (pCat (.ref a :: as)) mx = true) : pS1 (.invokevirtual idx) pc [1, j, n, e, ci, mx] lv st w = some (.inr (.inl (j, .ref a :: as, rest))) := by
  show pCallI j n ci mx st w = _
  unfold pCallI
  rw [hp]
  simp only [hw, Nat.beq_refl, h8, hm, Bool.and_self, cond_true]
theorem s_invI {pc : Nat} {lv : pLv} {st : List Value} {w : pW} {idx j n e ci mx a : Nat} {as rest fs : List Value} (hp : pArgs n [] st = some (as, .ref a :: rest)) (hw : w[a]? = some (.inr (ci, fs))) (h8 : Nat.ble (pCat rest) 8 = true) (hm : Nat.ble (pCat (.ref a :: as)) mx = true) : pS1 (.invokespecial idx) pc [3, j, n, e, ci, mx] lv st w = some (.inr (.inl (j, .ref a :: as, rest))) := by
  show pCallI j n ci mx st w = _
  unfold pCallI
  rw [hp]
  simp only [hw, Nat.beq_refl, h8, hm, Bool.and_self, cond_true]
theorem s_invJ {pc : Nat} {lv : pLv} {st : List Value} {w : pW} {idx j n e ci mx a : Nat} {as rest fs : List Value} (hp : pArgs n [] st = some (as, .ref a :: rest)) (hw : w[a]? = some (.inr (ci, fs))) (h8 : Nat.ble (pCat rest) 8 = true) (hm : Nat.ble (pCat (.ref a :: as)) mx = true) : pS1 (.invokespecial idx) pc [5, j, n, e, ci, mx] lv st w = some (.inr (.inl (j, .ref a :: as, rest))) := by
  show pCallI j n ci mx st w = _
  unfold pCallI
  rw [hp]
  simp only [hw, Nat.beq_refl, h8, hm, Bool.and_self, cond_true]
theorem s_invS {pc : Nat} {lv : pLv} {st : List Value} {w : pW} {idx j n e ci mx : Nat} {as rest : List Value} (hp : pArgs n [] st = some (as, rest)) (h8 : Nat.ble (pCat rest) 8 = true) (hm : Nat.ble (pCat as) mx = true) : pS1 (.invokestatic idx) pc [2, j, n, e, ci, mx] lv st w = some (.inr (.inl (j, as, rest))) := by
  show pCallS j n mx st = _
  unfold pCallS
  rw [hp]
  simp only [h8, hm, Bool.and_self, cond_true]
theorem s_invN {pc : Nat} {lv : pLv} {st : List Value} {w : pW} {idx j n e ci mx : Nat} {as rest : List Value} (hp : pArgs n [] st = some (as, rest)) (h8 : Nat.ble (pCat rest) 8 = true) (hm : Nat.ble (pCat as) mx = true) : pS1 (.invokestatic idx) pc [4, j, n, e, ci, mx] lv st w = some (.inr (.inl (j, as, rest))) := by
  show pCallS j n mx st = _
  unfold pCallS
  rw [hp]
  simp only [h8, hm, Bool.and_self, cond_true]
theorem s_obj {pc : Nat} {lv : pLv} {st : List Value} {w : pW} {idx j n e ci mx a : Nat} (h8 : Nat.ble (pCat st) 8 = true) : pS1 (.invokespecial idx) pc [0, j, n, e, ci, mx] lv (.ref a :: st) w = some (.inl (pc + 3, lv, st, w)) := by
  show pOK8 pc lv st w = _
  unfold pOK8
  rw [h8]
  rfl
theorem s_reti {pc : Nat} {lv : pLv} {w : pW} {x : Int32} : pS1 .ireturn pc [0] lv [.int x] w = some (.inr (.inr (some (.int x)))) := rfl
theorem s_retb {pc : Nat} {lv : pLv} {w : pW} {b : Bool} : pS1 .ireturn pc [1] lv [.int (bI b)] w = some (.inr (.inr (some (.int (bI b))))) := by
  cases b <;> rfl
theorem s_ret0 {pc : Nat} {lv : pLv} {w : pW}  : pS1 .ireturn pc [1] lv [.int (iI 0)] w = some (.inr (.inr (some (.int (bI false))))) := rfl
theorem s_ret1 {pc : Nat} {lv : pLv} {w : pW}  : pS1 .ireturn pc [1] lv [.int (iI 1)] w = some (.inr (.inr (some (.int (bI true))))) := rfl
theorem s_retl {pc : Nat} {lv : pLv} {w : pW} {x : Int64} : pS1 .lreturn pc [] lv [.long x] w = some (.inr (.inr (some (.long x)))) := rfl
theorem s_reta {pc : Nat} {lv : pLv} {w : pW} {x : Nat} : pS1 .areturn pc [] lv [.ref x] w = some (.inr (.inr (some (.ref x)))) := rfl
theorem s_retN {pc : Nat} {lv : pLv} {w : pW}  : pS1 .areturn pc [] lv [.null] w = some (.inr (.inr (some .null))) := rfl
theorem s_retv {pc : Nat} {lv : pLv} {w : pW}  : pS1 .return_ pc [] lv [] w = some (.inr (.inr none)) := rfl
