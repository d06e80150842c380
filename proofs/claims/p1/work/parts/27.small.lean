/-! WHAT THE REFERENCE'S SMALL METHODS ANSWER. Rows laid by program (wip/tools/lay.py, mk27.py). -/
theorem nI_mul (a b : Nat) : nI a * nI b = nI (a * b) := (Int32.ofNat_mul a b).symm
def bI (b : Bool) : Int32 := bif b then 1 else 0
theorem s_ret0 {pc : Nat} {lv : pLv} {w : pW} : pS1 .ireturn pc [1] lv [.int (nI 0)] w = some (.inr (.inr (some (.int (nI 0))))) := by
  show pIret [1] [.int (nI 0)] = _
  unfold pIret
  simp only [show nI 0 = 0 from rfl, decide_true, Bool.true_or, cond_true]
theorem s_ret1 {pc : Nat} {lv : pLv} {w : pW} : pS1 .ireturn pc [1] lv [.int (nI 1)] w = some (.inr (.inr (some (.int (nI 1))))) := by
  show pIret [1] [.int (nI 1)] = _
  unfold pIret
  simp only [show nI 1 = 1 from rfl, decide_true, Bool.or_true, cond_true]
theorem s_retI {pc : Nat} {lv : pLv} {w : pW} {x : Int32} : pS1 .ireturn pc [0] lv [.int x] w = some (.inr (.inr (some (.int x)))) := rfl
theorem s_retL {pc : Nat} {lv : pLv} {w : pW} {x : Int64} : pS1 .lreturn pc [] lv [.long x] w = some (.inr (.inr (some (.long x)))) := rfl
theorem i_eq {f : Nat → Int32} {a b : Nat} (h : a = b) : some (Value.int (f a)) = some (Value.int (f b)) := by rw [h]
/-- the reference's rows: points from 3 on, fixed edges from 163 on -/
def xF (f : Nat → Int32) (k : Nat) : Int32 := f (4 * k + 4)
def yF (f : Nat → Int32) (k : Nat) : Int32 := f (4 * k + 5)
def hF (f : Nat → Int32) (k : Nat) : Int32 := f (4 * k + 6)
def isP (f : Nat → Int32) (k : Nat) : Bool := decide (f (4 * k + 3) = nI 1)
def fxF (f : Nat → Int32) (p q : Nat) : Int32 := f (163 + 40 * p + q)
def sideF (f : Nat → Int32) (p q : Nat) (x y : Int32) : Int32 := (xF f q - xF f p) * (y - yF f p) - (yF f q - yF f p) * (x - xF f p)
def turnF (f : Nat → Int32) (p q r : Nat) : Int32 := sideF f p q (xF f r) (yF f r)
def squareF (f : Nat → Int32) (p q : Nat) : Int32 := (xF f q - xF f p) * (xF f q - xF f p) + (yF f q - yF f p) * (yF f q - yF f p)
def apB (v w : Int32) : Bool := (!(decide (v ≤ 0)) && decide (w < 0)) || (!(decide (0 ≤ v)) && !(decide (w ≤ 0)))
def inB (v low top : Int32) : Bool := !(decide (v < low)) && !(decide (top < v))
theorem r_isIn {w : pW} {v low top : Int32} : pRun 188 [.int v, .int low, .int top] w (some (.int (bI (inB v low top)))) w := by
  refine pr_run rfl ?_
  refine pr_blk 2 (q' := (2, [(0, .int v), (1, .int low), (2, .int top)], [.int low, .int v], w)) (by with_unfolding_all rfl) ?_
  by_cases h1 : v < low
  · skip
    refine pr_go rfl (s_icmp_lt_t h1) ?_
    refine pr_blk 1 (q' := (15, [(0, .int v), (1, .int low), (2, .int top)], [.int (nI 0)], w)) (by with_unfolding_all rfl) ?_
    exact pr_retE (r' := some (.int (nI 0))) rfl s_ret0 (by unfold inB bI; rw [decide_eq_true h1]; rfl)
  · skip
    refine pr_go rfl (s_icmp_lt_f h1) ?_
    refine pr_blk 2 (q' := (7, [(0, .int v), (1, .int low), (2, .int top)], [.int top, .int v], w)) (by with_unfolding_all rfl) ?_
    by_cases h2 : top < v
    · skip
      refine pr_go rfl (s_icmp_gt_t h2) ?_
      refine pr_blk 1 (q' := (15, [(0, .int v), (1, .int low), (2, .int top)], [.int (nI 0)], w)) (by with_unfolding_all rfl) ?_
      exact pr_retE (r' := some (.int (nI 0))) rfl s_ret0 (by unfold inB bI; rw [decide_eq_false h1]; rw [decide_eq_true h2]; rfl)
    · skip
      refine pr_go rfl (s_icmp_gt_f h2) ?_
      refine pr_blk 2 (q' := (15, [(0, .int v), (1, .int low), (2, .int top)], [.int (nI 1)], w)) (by with_unfolding_all rfl) ?_
      exact pr_retE (r' := some (.int (nI 1))) rfl s_ret1 (by unfold inB bI; rw [decide_eq_false h1]; rw [decide_eq_false h2]; rfl)
theorem r_isInT {w : pW} {k m : Nat} (hk : k ≤ m) (hm : m < 2 ^ 31) : pRun 188 [.int (nI k), .int (nI 0), .int (nI m)] w (some (.int 1)) w := by
  have h := r_isIn (w := w) (v := nI k) (low := nI 0) (top := nI m)
  have e : inB (nI k) (nI 0) (nI m) = true := by
    unfold inB
    rw [decide_eq_false (nI_nlt (Nat.zero_le k) (by omega)), decide_eq_false (nI_nlt hk hm)]
    rfl
  rw [e] at h
  exact h
theorem r_isPoint {w : pW} {o c n : Nat} {f : Nat → Int32} {fs : List Value} (ho : w[o]? = some (.inr (9, .ref c :: fs))) (hc : w[c]? = some (.inl (0, n, .inl f))) (hn : 1780 ≤ n) (hn2 : n < 2 ^ 31) {k : Nat} (hk : k < 40) : pRun 191 [.ref o, .int (nI k)] w (some (.int (bI (isP f k)))) w := by
  refine pr_run rfl ?_
  refine pr_blk 3 (q' := (4, [(0, .ref o), (1, .int (nI k))], [.int (nI 39), .int (nI 0), .int (nI k)], w)) (by with_unfolding_all rfl) ?_
  refine pr_call rfl (s_invS rfl rfl rfl) (r_isInT (k := k) (m := 39) (by omega) (by omega)) ?_
  refine pr_go rfl (s_if_eq_f (by decide)) ?_
  refine pr_blk 1 (q' := (11, [(0, .ref o), (1, .int (nI k))], [.ref o], w)) (by with_unfolding_all rfl) ?_
  refine pr_go rfl (s_getf ho rfl) ?_
  refine pr_blk 5 (q' := (19, [(0, .ref o), (1, .int (nI k))], [.int ((nI 3) + ((nI 4) * (nI k))), .ref c], w)) (by with_unfolding_all rfl) ?_
  rw [show ((nI 3) + ((nI 4) * (nI k)) : Int32) = nI ((3) + ((4) * (k))) from by simp only [nI_mul, nI_add]]
  refine pr_go rfl (s_iald hc (pInB_nI (by omega) (by omega))) ?_
  rw [nI_clamp (by omega)]
  refine pr_blk 1 (q' := (21, [(0, .ref o), (1, .int (nI k))], [.int (nI 1), .int (f (((3) + ((4) * (k)))))], w)) (by with_unfolding_all rfl) ?_
  by_cases h1 : f (((3) + ((4) * (k)))) = nI 1
  · skip
    refine pr_go rfl (s_icmp_ne_f (fun e => e h1)) ?_
    refine pr_blk 2 (q' := (29, [(0, .ref o), (1, .int (nI k))], [.int (nI 1)], w)) (by with_unfolding_all rfl) ?_
    exact pr_retE (r' := some (.int (nI 1))) rfl s_ret1 (by unfold isP bI; rw [show 4 * k + 3 = 3 + 4 * k from by omega]; rw [decide_eq_true h1]; rfl)
  · skip
    refine pr_go rfl (s_icmp_ne_t h1) ?_
    refine pr_blk 1 (q' := (29, [(0, .ref o), (1, .int (nI k))], [.int (nI 0)], w)) (by with_unfolding_all rfl) ?_
    exact pr_retE (r' := some (.int (nI 0))) rfl s_ret0 (by unfold isP bI; rw [show 4 * k + 3 = 3 + 4 * k from by omega]; rw [decide_eq_false h1]; rfl)
