/-! WHAT THE REFERENCE'S SMALL METHODS ANSWER. Rows laid by program (wip/tools/lay.py, mk27.py). -/
theorem nI_mul (a b : Nat) : nI a * nI b = nI (a * b) := (Int32.ofNat_mul a b).symm
def bI (b : Bool) : Int32 := bif b then 1 else 0
theorem s_ret0 {pc : Nat} {lv : pLv} {w : pW} : pS1 .ireturn pc [1] lv [.int (nI 0)] w = some (.inr (.inr (some (.int (nI 0))))) := by
  show pIret [1] [.int (nI 0)] = _
  unfold pIret
  simp only [show nI 0 = 0 from rfl, decide_true, Bool.true_or, cond_true]
theorem s_ret1 {pc : Nat} {lv : pLv} {w : pW} : pS1 .ireturn pc [1] lv [.int (nI 1)] w = some (.inr (.inr (some (.int (nI 1))))) := by
  show pIret [1] [.int (nI 1)] = _
  unfold pIret
  simp only [show nI 1 = 1 from rfl, decide_true, Bool.or_true, cond_true]
theorem s_retI {pc : Nat} {lv : pLv} {w : pW} {x : Int32} : pS1 .ireturn pc [0] lv [.int x] w = some (.inr (.inr (some (.int x)))) := rfl
theorem s_retL {pc : Nat} {lv : pLv} {w : pW} {x : Int64} : pS1 .lreturn pc [] lv [.long x] w = some (.inr (.inr (some (.long x)))) := rfl
theorem s_iadd {pc : Nat} {lv : pLv} {st : List Value} {w : pW} {x y : Int32} : pS1 .iadd pc [] lv (.int y :: .int x :: st) w = some (.inl (pc + 1, lv, .int (x + y) :: st, w)) := rfl
theorem s_isub {pc : Nat} {lv : pLv} {st : List Value} {w : pW} {x y : Int32} : pS1 .isub pc [] lv (.int y :: .int x :: st) w = some (.inl (pc + 1, lv, .int (x - y) :: st, w)) := rfl
theorem s_imul {pc : Nat} {lv : pLv} {st : List Value} {w : pW} {x y : Int32} : pS1 .imul pc [] lv (.int y :: .int x :: st) w = some (.inl (pc + 1, lv, .int (x * y) :: st, w)) := rfl
theorem s_iand {pc : Nat} {lv : pLv} {st : List Value} {w : pW} {x y : Int32} : pS1 .iand pc [] lv (.int y :: .int x :: st) w = some (.inl (pc + 1, lv, .int (x &&& y) :: st, w)) := rfl
theorem s_ladd {pc : Nat} {lv : pLv} {st : List Value} {w : pW} {x y : Int64} : pS1 .ladd pc [] lv (.long y :: .long x :: st) w = some (.inl (pc + 1, lv, .long (x + y) :: st, w)) := rfl
theorem s_lsub {pc : Nat} {lv : pLv} {st : List Value} {w : pW} {x y : Int64} : pS1 .lsub pc [] lv (.long y :: .long x :: st) w = some (.inl (pc + 1, lv, .long (x - y) :: st, w)) := rfl
theorem s_lmul {pc : Nat} {lv : pLv} {st : List Value} {w : pW} {x y : Int64} : pS1 .lmul pc [] lv (.long y :: .long x :: st) w = some (.inl (pc + 1, lv, .long (x * y) :: st, w)) := rfl
theorem s_i2l {pc : Nat} {lv : pLv} {st : List Value} {w : pW} {x : Int32} : pS1 .i2l pc [] lv (.int x :: st) w = some (.inl (pc + 1, lv, .long x.toInt64 :: st, w)) := rfl
theorem s_lcmp {pc : Nat} {lv : pLv} {st : List Value} {w : pW} {x y : Int64} : pS1 .lcmp pc [] lv (.long y :: .long x :: st) w = some (.inl (pc + 1, lv, .int (lg_cmp x y) :: st, w)) := rfl
theorem s_iconst {pc v : Nat} {n : Int} {lv : pLv} {st : List Value} {w : pW} : pS1 (.iconst n) pc [v] lv st w = some (.inl (pc + 1, lv, .int (nI v) :: st, w)) := rfl
theorem s_bipush {pc v : Nat} {n : Int} {lv : pLv} {st : List Value} {w : pW} : pS1 (.bipush n) pc [v] lv st w = some (.inl (pc + 2, lv, .int (nI v) :: st, w)) := rfl
theorem s_sipush {pc v : Nat} {n : Int} {lv : pLv} {st : List Value} {w : pW} : pS1 (.sipush n) pc [v] lv st w = some (.inl (pc + 3, lv, .int (nI v) :: st, w)) := rfl
theorem s_iload_n {pc : Nat} {k : Fin 4} {lv : pLv} {st : List Value} {w : pW} {x : Int32} (h : pGet lv k = some (.int x)) : pS1 (.iload_n k) pc [] lv st w = some (.inl (pc + 1, lv, .int x :: st, w)) := by
  show pLd1 (pc + 1) lv st w (pGet lv k) = _
  rw [h]
  rfl
theorem s_iload {pc : Nat} {k : Nat} {lv : pLv} {st : List Value} {w : pW} {x : Int32} (h : pGet lv k = some (.int x)) : pS1 (.iload k) pc [] lv st w = some (.inl (pc + 2, lv, .int x :: st, w)) := by
  show pLd1 (pc + 2) lv st w (pGet lv k) = _
  rw [h]
  rfl
theorem s_lload_n {pc : Nat} {k : Fin 4} {lv : pLv} {st : List Value} {w : pW} {x : Int64} (h : pGet lv k = some (.long x)) : pS1 (.lload_n k) pc [] lv st w = some (.inl (pc + 1, lv, .long x :: st, w)) := by
  show pLdL (pc + 1) lv st w (pGet lv k) = _
  rw [h]
  rfl
theorem s_lload {pc : Nat} {k : Nat} {lv : pLv} {st : List Value} {w : pW} {x : Int64} (h : pGet lv k = some (.long x)) : pS1 (.lload k) pc [] lv st w = some (.inl (pc + 2, lv, .long x :: st, w)) := by
  show pLdL (pc + 2) lv st w (pGet lv k) = _
  rw [h]
  rfl
theorem s_aload_n {pc : Nat} {k : Fin 4} {lv : pLv} {st : List Value} {w : pW} {x : Nat} (h : pGet lv k = some (.ref x)) : pS1 (.aload_n k) pc [] lv st w = some (.inl (pc + 1, lv, .ref x :: st, w)) := by
  show pLdA (pc + 1) lv st w (pGet lv k) = _
  rw [h]
  rfl
theorem s_istore_n {pc : Nat} {k : Fin 4} {lv lv' : pLv} {st : List Value} {w : pW} {x : Int32} (h : pSet1 lv k (.int x) = lv') : pS1 (.istore_n k) pc [] lv (.int x :: st) w = some (.inl (pc + 1, lv', st, w)) := by
  subst h
  rfl
theorem s_istore {pc : Nat} {k : Nat} {lv lv' : pLv} {st : List Value} {w : pW} {x : Int32} (h : pSet1 lv k (.int x) = lv') : pS1 (.istore k) pc [] lv (.int x :: st) w = some (.inl (pc + 2, lv', st, w)) := by
  subst h
  rfl
theorem s_lstore_n {pc : Nat} {k : Fin 4} {lv lv' : pLv} {st : List Value} {w : pW} {x : Int64} (h : pSet2 lv k (.long x) = lv') : pS1 (.lstore_n k) pc [] lv (.long x :: st) w = some (.inl (pc + 1, lv', st, w)) := by
  subst h
  rfl
theorem s_lstore {pc : Nat} {k : Nat} {lv lv' : pLv} {st : List Value} {w : pW} {x : Int64} (h : pSet2 lv k (.long x) = lv') : pS1 (.lstore k) pc [] lv (.long x :: st) w = some (.inl (pc + 2, lv', st, w)) := by
  subst h
  rfl
theorem s_astore_n {pc : Nat} {k : Fin 4} {lv lv' : pLv} {st : List Value} {w : pW} {x : Nat} (h : pSet1 lv k (.ref x) = lv') : pS1 (.astore_n k) pc [] lv (.ref x :: st) w = some (.inl (pc + 1, lv', st, w)) := by
  subst h
  rfl
theorem s_iinc1 {pc k : Nat} {lv lv' : pLv} {st : List Value} {w : pW} {x : Int32} (h : pGet lv k = some (.int x)) (h2 : pSet1 lv k (.int (x + 1)) = lv') : pS1 (.iinc k 1) pc [] lv st w = some (.inl (pc + 3, lv', st, w)) := by
  subst h2
  show pInc (pc + 3) lv k 1 st w = _
  unfold pInc
  rw [h]
  rfl
theorem s_goto {pc t : Nat} {off : Int} {lv : pLv} {st : List Value} {w : pW} : pS1 (.goto off) pc [t] lv st w = some (.inl (t, lv, st, w)) := rfl
theorem s_lconst0 {pc : Nat} {lv : pLv} {st : List Value} {w : pW} : pS1 (.lconst 0) pc [] lv st w = some (.inl (pc + 1, lv, .long 0 :: st, w)) := rfl
theorem s_dup {pc : Nat} {lv : pLv} {st : List Value} {w : pW} {v : Value} (h : v.category = 1) : pS1 .dup pc [] lv (v :: st) w = some (.inl (pc + 1, lv, v :: v :: st, w)) := by
  show (bif Nat.beq v.category 1 then pGo1 (pc + 1) lv (v :: v :: st) w else none) = _
  rw [h]
  rfl
theorem i_eq {f : Nat → Int32} {a b : Nat} (h : a = b) : some (Value.int (f a)) = some (Value.int (f b)) := by rw [h]
/-- the reference's rows: points from 3 on, fixed edges from 163 on -/
def xF (f : Nat → Int32) (k : Nat) : Int32 := f (4 * k + 4)
def yF (f : Nat → Int32) (k : Nat) : Int32 := f (4 * k + 5)
def hF (f : Nat → Int32) (k : Nat) : Int32 := f (4 * k + 6)
def isP (f : Nat → Int32) (k : Nat) : Bool := decide (f (4 * k + 3) = nI 1)
def fxF (f : Nat → Int32) (p q : Nat) : Int32 := f (163 + 40 * p + q)
def sideF (f : Nat → Int32) (p q : Nat) (x y : Int32) : Int32 := (xF f q - xF f p) * (y - yF f p) - (yF f q - yF f p) * (x - xF f p)
def turnF (f : Nat → Int32) (p q r : Nat) : Int32 := sideF f p q (xF f r) (yF f r)
def squareF (f : Nat → Int32) (p q : Nat) : Int32 := (xF f q - xF f p) * (xF f q - xF f p) + (yF f q - yF f p) * (yF f q - yF f p)
def apB (v w : Int32) : Bool := (!(decide (v ≤ 0)) && decide (w < 0)) || (!(decide (0 ≤ v)) && !(decide (w ≤ 0)))
def inB (v low top : Int32) : Bool := !(decide (v < low)) && !(decide (top < v))
theorem r_isIn {w : pW} {v low top : Int32} : pRun 188 [.int v, .int low, .int top] w (some (.int (bI (inB v low top)))) w := by
  refine pr_run rfl ?_
  refine pr_go rfl (s_iload_n rfl) ?_
  refine pr_go rfl (s_iload_n rfl) ?_
  by_cases h1 : v < low
  · skip
    refine pr_go rfl (s_icmp_lt_t h1) ?_
    refine pr_go rfl s_iconst ?_
    exact pr_retE (r' := some (.int (nI 0))) rfl s_ret0 (by unfold inB bI; rw [decide_eq_true h1]; rfl)
  · skip
    refine pr_go rfl (s_icmp_lt_f h1) ?_
    refine pr_go rfl (s_iload_n rfl) ?_
    refine pr_go rfl (s_iload_n rfl) ?_
    by_cases h2 : top < v
    · skip
      refine pr_go rfl (s_icmp_gt_t h2) ?_
      refine pr_go rfl s_iconst ?_
      exact pr_retE (r' := some (.int (nI 0))) rfl s_ret0 (by unfold inB bI; rw [decide_eq_false h1]; rw [decide_eq_true h2]; rfl)
    · skip
      refine pr_go rfl (s_icmp_gt_f h2) ?_
      refine pr_go rfl s_iconst ?_
      refine pr_go rfl s_goto ?_
      exact pr_retE (r' := some (.int (nI 1))) rfl s_ret1 (by unfold inB bI; rw [decide_eq_false h1]; rw [decide_eq_false h2]; rfl)
theorem r_isInT {w : pW} {k m : Nat} (hk : k ≤ m) (hm : m < 2 ^ 31) : pRun 188 [.int (nI k), .int (nI 0), .int (nI m)] w (some (.int 1)) w := by
  have h := r_isIn (w := w) (v := nI k) (low := nI 0) (top := nI m)
  have e : inB (nI k) (nI 0) (nI m) = true := by
    unfold inB
    rw [decide_eq_false (nI_nlt (Nat.zero_le k) (by omega)), decide_eq_false (nI_nlt hk hm)]
    rfl
  rw [e] at h
  exact h
theorem r_isPoint {w : pW} {o c n : Nat} {f : Nat → Int32} {fs : List Value} (ho : w[o]? = some (.inr (9, .ref c :: fs))) (hc : w[c]? = some (.inl (0, n, .inl f))) (hn : 1780 ≤ n) (hn2 : n < 2 ^ 31) {k : Nat} (hk : k < 40) : pRun 191 [.ref o, .int (nI k)] w (some (.int (bI (isP f k)))) w := by
  refine pr_run rfl ?_
  refine pr_go rfl (s_iload_n rfl) ?_
  refine pr_go rfl s_iconst ?_
  refine pr_go rfl s_bipush ?_
  refine pr_call rfl (s_invS rfl rfl rfl) (r_isInT (k := k) (m := 39) (by omega) (by omega)) ?_
  refine pr_go rfl (s_if_eq_f (by decide)) ?_
  refine pr_go rfl (s_aload_n rfl) ?_
  refine pr_go rfl (s_getf ho rfl) ?_
  refine pr_go rfl s_iconst ?_
  refine pr_go rfl s_iconst ?_
  refine pr_go rfl (s_iload_n rfl) ?_
  refine pr_go rfl s_imul ?_
  refine pr_go rfl s_iadd ?_
  rw [show ((nI 3) + ((nI 4) * (nI k)) : Int32) = nI ((3) + ((4) * (k))) from by simp only [nI_mul, nI_add]]
  refine pr_go rfl (s_iald hc (pInB_nI (by omega) (by omega))) ?_
  rw [nI_clamp (by omega)]
  refine pr_go rfl s_iconst ?_
  by_cases h1 : f (((3) + ((4) * (k)))) = nI 1
  · skip
    refine pr_go rfl (s_icmp_ne_f (fun e => e h1)) ?_
    refine pr_go rfl s_iconst ?_
    refine pr_go rfl s_goto ?_
    exact pr_retE (r' := some (.int (nI 1))) rfl s_ret1 (by unfold isP bI; rw [show 4 * k + 3 = 3 + 4 * k from by omega]; rw [decide_eq_true h1]; rfl)
  · skip
    refine pr_go rfl (s_icmp_ne_t h1) ?_
    refine pr_go rfl s_iconst ?_
    exact pr_retE (r' := some (.int (nI 0))) rfl s_ret0 (by unfold isP bI; rw [show 4 * k + 3 = 3 + 4 * k from by omega]; rw [decide_eq_false h1]; rfl)
theorem r_xOf {w : pW} {o c n : Nat} {f : Nat → Int32} {fs : List Value} (ho : w[o]? = some (.inr (9, .ref c :: fs))) (hc : w[c]? = some (.inl (0, n, .inl f))) (hn : 1780 ≤ n) (hn2 : n < 2 ^ 31) {k : Nat} (hk : k < 40) : pRun 192 [.ref o, .int (nI k)] w (some (.int (xF f k))) w := by
  refine pr_run rfl ?_
  refine pr_go rfl (s_aload_n rfl) ?_
  refine pr_go rfl (s_getf ho rfl) ?_
  refine pr_go rfl s_iconst ?_
  refine pr_go rfl s_iconst ?_
  refine pr_go rfl (s_iload_n rfl) ?_
  refine pr_go rfl s_imul ?_
  refine pr_go rfl s_iadd ?_
  refine pr_go rfl s_iconst ?_
  refine pr_go rfl s_iadd ?_
  rw [show (((nI 3) + ((nI 4) * (nI k))) + (nI 1) : Int32) = nI (((3) + ((4) * (k))) + (1)) from by simp only [nI_mul, nI_add]]
  refine pr_go rfl (s_iald hc (pInB_nI (by omega) (by omega))) ?_
  rw [nI_clamp (by omega)]
  exact pr_retE (r' := some (.int (f ((((3) + ((4) * (k))) + (1)))))) rfl s_retI (by unfold xF; exact i_eq (by omega))
theorem r_yOf {w : pW} {o c n : Nat} {f : Nat → Int32} {fs : List Value} (ho : w[o]? = some (.inr (9, .ref c :: fs))) (hc : w[c]? = some (.inl (0, n, .inl f))) (hn : 1780 ≤ n) (hn2 : n < 2 ^ 31) {k : Nat} (hk : k < 40) : pRun 193 [.ref o, .int (nI k)] w (some (.int (yF f k))) w := by
  refine pr_run rfl ?_
  refine pr_go rfl (s_aload_n rfl) ?_
  refine pr_go rfl (s_getf ho rfl) ?_
  refine pr_go rfl s_iconst ?_
  refine pr_go rfl s_iconst ?_
  refine pr_go rfl (s_iload_n rfl) ?_
  refine pr_go rfl s_imul ?_
  refine pr_go rfl s_iadd ?_
  refine pr_go rfl s_iconst ?_
  refine pr_go rfl s_iadd ?_
  rw [show (((nI 3) + ((nI 4) * (nI k))) + (nI 2) : Int32) = nI (((3) + ((4) * (k))) + (2)) from by simp only [nI_mul, nI_add]]
  refine pr_go rfl (s_iald hc (pInB_nI (by omega) (by omega))) ?_
  rw [nI_clamp (by omega)]
  exact pr_retE (r' := some (.int (f ((((3) + ((4) * (k))) + (2)))))) rfl s_retI (by unfold yF; exact i_eq (by omega))
theorem r_highOf {w : pW} {o c n : Nat} {f : Nat → Int32} {fs : List Value} (ho : w[o]? = some (.inr (9, .ref c :: fs))) (hc : w[c]? = some (.inl (0, n, .inl f))) (hn : 1780 ≤ n) (hn2 : n < 2 ^ 31) {k : Nat} (hk : k < 40) : pRun 194 [.ref o, .int (nI k)] w (some (.int (hF f k))) w := by
  refine pr_run rfl ?_
  refine pr_go rfl (s_aload_n rfl) ?_
  refine pr_go rfl (s_getf ho rfl) ?_
  refine pr_go rfl s_iconst ?_
  refine pr_go rfl s_iconst ?_
  refine pr_go rfl (s_iload_n rfl) ?_
  refine pr_go rfl s_imul ?_
  refine pr_go rfl s_iadd ?_
  refine pr_go rfl s_iconst ?_
  refine pr_go rfl s_iadd ?_
  rw [show (((nI 3) + ((nI 4) * (nI k))) + (nI 3) : Int32) = nI (((3) + ((4) * (k))) + (3)) from by simp only [nI_mul, nI_add]]
  refine pr_go rfl (s_iald hc (pInB_nI (by omega) (by omega))) ?_
  rw [nI_clamp (by omega)]
  exact pr_retE (r' := some (.int (f ((((3) + ((4) * (k))) + (3)))))) rfl s_retI (by unfold hF; exact i_eq (by omega))
theorem r_fixedAt {w : pW} {o c n : Nat} {f : Nat → Int32} {fs : List Value} (ho : w[o]? = some (.inr (9, .ref c :: fs))) (hc : w[c]? = some (.inl (0, n, .inl f))) (hn : 1780 ≤ n) (hn2 : n < 2 ^ 31) {p q : Nat} (hp : p < 40) (hq : q < 40) : pRun 196 [.ref o, .int (nI p), .int (nI q)] w (some (.int (fxF f p q))) w := by
  refine pr_run rfl ?_
  refine pr_go rfl (s_aload_n rfl) ?_
  refine pr_go rfl (s_getf ho rfl) ?_
  refine pr_go rfl s_sipush ?_
  refine pr_go rfl s_bipush ?_
  refine pr_go rfl (s_iload_n rfl) ?_
  refine pr_go rfl s_imul ?_
  refine pr_go rfl s_iadd ?_
  refine pr_go rfl (s_iload_n rfl) ?_
  refine pr_go rfl s_iadd ?_
  rw [show (((nI 163) + ((nI 40) * (nI p))) + (nI q) : Int32) = nI (((163) + ((40) * (p))) + (q)) from by simp only [nI_mul, nI_add]]
  refine pr_go rfl (s_iald hc (pInB_nI (by omega) (by omega))) ?_
  rw [nI_clamp (by omega)]
  exact pr_retE (r' := some (.int (f ((((163) + ((40) * (p))) + (q)))))) rfl s_retI (by unfold fxF; exact i_eq (by omega))
theorem r_sideOf {w : pW} {o c n : Nat} {f : Nat → Int32} {fs : List Value} (ho : w[o]? = some (.inr (9, .ref c :: fs))) (hc : w[c]? = some (.inl (0, n, .inl f))) (hn : 1780 ≤ n) (hn2 : n < 2 ^ 31) {p q : Nat} (hp : p < 40) (hq : q < 40) {x y : Int32} : pRun 201 [.ref o, .int (nI p), .int (nI q), .int x, .int y] w (some (.int (sideF f p q x y))) w := by
  refine pr_run rfl ?_
  refine pr_go rfl (s_aload_n rfl) ?_
  refine pr_go rfl (s_iload_n rfl) ?_
  refine pr_call rfl (s_invV rfl ho rfl rfl) (r_xOf ho hc hn hn2 (k := q) (by omega)) ?_
  refine pr_go rfl (s_aload_n rfl) ?_
  refine pr_go rfl (s_iload_n rfl) ?_
  refine pr_call rfl (s_invV rfl ho rfl rfl) (r_xOf ho hc hn hn2 (k := p) (by omega)) ?_
  refine pr_go rfl s_isub ?_
  refine pr_go rfl (s_iload rfl) ?_
  refine pr_go rfl (s_aload_n rfl) ?_
  refine pr_go rfl (s_iload_n rfl) ?_
  refine pr_call rfl (s_invV rfl ho rfl rfl) (r_yOf ho hc hn hn2 (k := p) (by omega)) ?_
  refine pr_go rfl s_isub ?_
  refine pr_go rfl s_imul ?_
  refine pr_go rfl (s_aload_n rfl) ?_
  refine pr_go rfl (s_iload_n rfl) ?_
  refine pr_call rfl (s_invV rfl ho rfl rfl) (r_yOf ho hc hn hn2 (k := q) (by omega)) ?_
  refine pr_go rfl (s_aload_n rfl) ?_
  refine pr_go rfl (s_iload_n rfl) ?_
  refine pr_call rfl (s_invV rfl ho rfl rfl) (r_yOf ho hc hn hn2 (k := p) (by omega)) ?_
  refine pr_go rfl s_isub ?_
  refine pr_go rfl (s_iload_n rfl) ?_
  refine pr_go rfl (s_aload_n rfl) ?_
  refine pr_go rfl (s_iload_n rfl) ?_
  refine pr_call rfl (s_invV rfl ho rfl rfl) (r_xOf ho hc hn hn2 (k := p) (by omega)) ?_
  refine pr_go rfl s_isub ?_
  refine pr_go rfl s_imul ?_
  refine pr_go rfl s_isub ?_
  exact pr_retE (r' := some (.int ((((xF f q) - (xF f p)) * ((y) - (yF f p))) - (((yF f q) - (yF f p)) * ((x) - (xF f p)))))) rfl s_retI (rfl)
theorem r_turnOf {w : pW} {o c n : Nat} {f : Nat → Int32} {fs : List Value} (ho : w[o]? = some (.inr (9, .ref c :: fs))) (hc : w[c]? = some (.inl (0, n, .inl f))) (hn : 1780 ≤ n) (hn2 : n < 2 ^ 31) {p q : Nat} (hp : p < 40) (hq : q < 40) {r : Nat} (hr : r < 40) : pRun 202 [.ref o, .int (nI p), .int (nI q), .int (nI r)] w (some (.int (turnF f p q r))) w := by
  refine pr_run rfl ?_
  refine pr_go rfl (s_aload_n rfl) ?_
  refine pr_go rfl (s_iload_n rfl) ?_
  refine pr_go rfl (s_iload_n rfl) ?_
  refine pr_go rfl (s_aload_n rfl) ?_
  refine pr_go rfl (s_iload_n rfl) ?_
  refine pr_call rfl (s_invV rfl ho rfl rfl) (r_xOf ho hc hn hn2 (k := r) (by omega)) ?_
  refine pr_go rfl (s_aload_n rfl) ?_
  refine pr_go rfl (s_iload_n rfl) ?_
  refine pr_call rfl (s_invV rfl ho rfl rfl) (r_yOf ho hc hn hn2 (k := r) (by omega)) ?_
  refine pr_call rfl (s_invV rfl ho rfl rfl) (r_sideOf ho hc hn hn2 (p := p) (q := q) (by omega) (by omega) (x := xF f r) (y := yF f r)) ?_
  exact pr_retE (r' := some (.int (sideF f p q (xF f r) (yF f r)))) rfl s_retI (rfl)
theorem r_squareOf {w : pW} {o c n : Nat} {f : Nat → Int32} {fs : List Value} (ho : w[o]? = some (.inr (9, .ref c :: fs))) (hc : w[c]? = some (.inl (0, n, .inl f))) (hn : 1780 ≤ n) (hn2 : n < 2 ^ 31) {p q : Nat} (hp : p < 40) (hq : q < 40) : pRun 204 [.ref o, .int (nI p), .int (nI q)] w (some (.int (squareF f p q))) w := by
  refine pr_run rfl ?_
  refine pr_go rfl (s_aload_n rfl) ?_
  refine pr_go rfl (s_iload_n rfl) ?_
  refine pr_call rfl (s_invV rfl ho rfl rfl) (r_xOf ho hc hn hn2 (k := q) (by omega)) ?_
  refine pr_go rfl (s_aload_n rfl) ?_
  refine pr_go rfl (s_iload_n rfl) ?_
  refine pr_call rfl (s_invV rfl ho rfl rfl) (r_xOf ho hc hn hn2 (k := p) (by omega)) ?_
  refine pr_go rfl s_isub ?_
  refine pr_go rfl (s_aload_n rfl) ?_
  refine pr_go rfl (s_iload_n rfl) ?_
  refine pr_call rfl (s_invV rfl ho rfl rfl) (r_xOf ho hc hn hn2 (k := q) (by omega)) ?_
  refine pr_go rfl (s_aload_n rfl) ?_
  refine pr_go rfl (s_iload_n rfl) ?_
  refine pr_call rfl (s_invV rfl ho rfl rfl) (r_xOf ho hc hn hn2 (k := p) (by omega)) ?_
  refine pr_go rfl s_isub ?_
  refine pr_go rfl s_imul ?_
  refine pr_go rfl (s_aload_n rfl) ?_
  refine pr_go rfl (s_iload_n rfl) ?_
  refine pr_call rfl (s_invV rfl ho rfl rfl) (r_yOf ho hc hn hn2 (k := q) (by omega)) ?_
  refine pr_go rfl (s_aload_n rfl) ?_
  refine pr_go rfl (s_iload_n rfl) ?_
  refine pr_call rfl (s_invV rfl ho rfl rfl) (r_yOf ho hc hn hn2 (k := p) (by omega)) ?_
  refine pr_go rfl s_isub ?_
  refine pr_go rfl (s_aload_n rfl) ?_
  refine pr_go rfl (s_iload_n rfl) ?_
  refine pr_call rfl (s_invV rfl ho rfl rfl) (r_yOf ho hc hn hn2 (k := q) (by omega)) ?_
  refine pr_go rfl (s_aload_n rfl) ?_
  refine pr_go rfl (s_iload_n rfl) ?_
  refine pr_call rfl (s_invV rfl ho rfl rfl) (r_yOf ho hc hn hn2 (k := p) (by omega)) ?_
  refine pr_go rfl s_isub ?_
  refine pr_go rfl s_imul ?_
  refine pr_go rfl s_iadd ?_
  exact pr_retE (r' := some (.int ((((xF f q) - (xF f p)) * ((xF f q) - (xF f p))) + (((yF f q) - (yF f p)) * ((yF f q) - (yF f p)))))) rfl s_retI (rfl)
theorem r_areApart {w : pW} {v u : Int32} : pRun 205 [.int v, .int u] w (some (.int (bI (apB v u)))) w := by
  refine pr_run rfl ?_
  refine pr_go rfl (s_iload_n rfl) ?_
  by_cases h1 : v ≤ 0
  · skip
    refine pr_go rfl (s_if_le_t h1) ?_
    refine pr_go rfl (s_iload_n rfl) ?_
    by_cases h9 : 0 ≤ v
    · skip
      refine pr_go rfl (s_if_ge_t h9) ?_
      refine pr_go rfl s_iconst ?_
      exact pr_retE (r' := some (.int (nI 0))) rfl s_ret0 (by unfold apB bI; simp only [decide_eq_true h1, decide_eq_true h9]; rfl)
    · skip
      refine pr_go rfl (s_if_ge_f h9) ?_
      refine pr_go rfl (s_iload_n rfl) ?_
      by_cases h13 : u ≤ 0
      · skip
        refine pr_go rfl (s_if_le_t h13) ?_
        refine pr_go rfl s_iconst ?_
        exact pr_retE (r' := some (.int (nI 0))) rfl s_ret0 (by unfold apB bI; simp only [decide_eq_true h1, decide_eq_false h9, decide_eq_true h13]; rfl)
      · skip
        refine pr_go rfl (s_if_le_f h13) ?_
        refine pr_go rfl s_iconst ?_
        refine pr_go rfl s_goto ?_
        exact pr_retE (r' := some (.int (nI 1))) rfl s_ret1 (by unfold apB bI; simp only [decide_eq_true h1, decide_eq_false h9, decide_eq_false h13]; rfl)
  · skip
    refine pr_go rfl (s_if_le_f h1) ?_
    refine pr_go rfl (s_iload_n rfl) ?_
    by_cases h5 : u < 0
    · skip
      refine pr_go rfl (s_if_lt_t h5) ?_
      refine pr_go rfl s_iconst ?_
      refine pr_go rfl s_goto ?_
      exact pr_retE (r' := some (.int (nI 1))) rfl s_ret1 (by unfold apB bI; simp only [decide_eq_false h1, decide_eq_true h5]; rfl)
    · skip
      refine pr_go rfl (s_if_lt_f h5) ?_
      refine pr_go rfl (s_iload_n rfl) ?_
      by_cases h9 : 0 ≤ v
      · skip
        refine pr_go rfl (s_if_ge_t h9) ?_
        refine pr_go rfl s_iconst ?_
        exact pr_retE (r' := some (.int (nI 0))) rfl s_ret0 (by unfold apB bI; simp only [decide_eq_false h1, decide_eq_false h5, decide_eq_true h9]; rfl)
      · skip
        refine pr_go rfl (s_if_ge_f h9) ?_
        refine pr_go rfl (s_iload_n rfl) ?_
        by_cases h13 : u ≤ 0
        · skip
          refine pr_go rfl (s_if_le_t h13) ?_
          refine pr_go rfl s_iconst ?_
          exact pr_retE (r' := some (.int (nI 0))) rfl s_ret0 (by unfold apB bI; simp only [decide_eq_false h1, decide_eq_false h5, decide_eq_false h9, decide_eq_true h13]; rfl)
        · skip
          refine pr_go rfl (s_if_le_f h13) ?_
          refine pr_go rfl s_iconst ?_
          refine pr_go rfl s_goto ?_
          exact pr_retE (r' := some (.int (nI 1))) rfl s_ret1 (by unfold apB bI; simp only [decide_eq_false h1, decide_eq_false h5, decide_eq_false h9, decide_eq_false h13]; rfl)
theorem r_isBorder {w : pW} {o c n : Nat} {f : Nat → Int32} {fs : List Value} (ho : w[o]? = some (.inr (9, .ref c :: fs))) (hc : w[c]? = some (.inl (0, n, .inl f))) (hn : 1780 ≤ n) (hn2 : n < 2 ^ 31) {p q : Nat} (hp : p < 40) (hq : q < 40) : pRun 217 [.ref o, .int (nI p), .int (nI q)] w (some (.int (bI (decide (fxF f p q = nI 2))))) w := by
  refine pr_run rfl ?_
  refine pr_go rfl (s_aload_n rfl) ?_
  refine pr_go rfl (s_iload_n rfl) ?_
  refine pr_go rfl (s_iload_n rfl) ?_
  refine pr_call rfl (s_invV rfl ho rfl rfl) (r_fixedAt ho hc hn hn2 (p := p) (q := q) (by omega) (by omega)) ?_
  refine pr_go rfl s_iconst ?_
  by_cases h1 : fxF f p q = nI 2
  · skip
    refine pr_go rfl (s_icmp_ne_f (fun e => e h1)) ?_
    refine pr_go rfl s_iconst ?_
    refine pr_go rfl s_goto ?_
    exact pr_retE (r' := some (.int (nI 1))) rfl s_ret1 (by unfold bI; rw [decide_eq_true h1]; rfl)
  · skip
    refine pr_go rfl (s_icmp_ne_t h1) ?_
    refine pr_go rfl s_iconst ?_
    exact pr_retE (r' := some (.int (nI 0))) rfl s_ret0 (by unfold bI; rw [decide_eq_false h1]; rfl)
theorem r_isInward {w : pW} {o c n : Nat} {f : Nat → Int32} {fs : List Value} (ho : w[o]? = some (.inr (9, .ref c :: fs))) (hc : w[c]? = some (.inl (0, n, .inl f))) (hn : 1780 ≤ n) (hn2 : n < 2 ^ 31) {p q : Nat} (hp : p < 40) (hq : q < 40) : pRun 218 [.ref o, .int (nI p), .int (nI q)] w (some (.int (bI (decide (fxF f p q = nI 2) && !(decide (sideF f p q (nI 0) (nI 0) ≤ 0)))))) w := by
  refine pr_run rfl ?_
  refine pr_go rfl (s_aload_n rfl) ?_
  refine pr_go rfl (s_iload_n rfl) ?_
  refine pr_go rfl (s_iload_n rfl) ?_
  refine pr_call rfl (s_invV rfl ho rfl rfl) (r_isBorder ho hc hn hn2 (p := p) (q := q) (by omega) (by omega)) ?_
  cases h6 : decide (fxF f p q = nI 2)
  · skip
    refine pr_go rfl (s_if_eq_t (by decide)) ?_
    refine pr_go rfl s_iconst ?_
    exact pr_retE (r' := some (.int (nI 0))) rfl s_ret0 (by unfold bI; rfl)
  · skip
    refine pr_go rfl (s_if_eq_f (by decide)) ?_
    refine pr_go rfl (s_aload_n rfl) ?_
    refine pr_go rfl (s_iload_n rfl) ?_
    refine pr_go rfl (s_iload_n rfl) ?_
    refine pr_go rfl s_iconst ?_
    refine pr_go rfl s_iconst ?_
    refine pr_call rfl (s_invV rfl ho rfl rfl) (r_sideOf ho hc hn hn2 (p := p) (q := q) (by omega) (by omega) (x := nI 0) (y := nI 0)) ?_
    by_cases h17 : sideF f p q (nI 0) (nI 0) ≤ 0
    · skip
      refine pr_go rfl (s_if_le_t h17) ?_
      refine pr_go rfl s_iconst ?_
      exact pr_retE (r' := some (.int (nI 0))) rfl s_ret0 (by unfold bI; rw [decide_eq_true h17]; rfl)
    · skip
      refine pr_go rfl (s_if_le_f h17) ?_
      refine pr_go rfl s_iconst ?_
      refine pr_go rfl s_goto ?_
      exact pr_retE (r' := some (.int (nI 1))) rfl s_ret1 (by unfold bI; rw [decide_eq_false h17]; rfl)
