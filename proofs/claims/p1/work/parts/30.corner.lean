/-! WHICH CORNER THE REFERENCE TAKES FOR AN EDGE. Rows laid by program (wip/tools/lay.py, mk30.py). -/
def aheadF (f : Nat → Int32) (p q : Nat) : Bool := bif decide (xF f p = xF f q) then !(decide (yF f q ≤ yF f p)) else !(decide (xF f q ≤ xF f p))
def ins6 (px py qx qy rx ry : Int64) : Int64 := (px * px + py * py) * (qx * ry - qy * rx) - (qx * qx + qy * qy) * (px * ry - py * rx) + (rx * rx + ry * ry) * (px * qy - py * qx)
def insF (f : Nat → Int32) (p q r : Nat) (x y : Int32) : Int64 := ins6 (xF f p - x).toInt64 (yF f p - y).toInt64 (xF f q - x).toInt64 (yF f q - y).toInt64 (xF f r - x).toInt64 (yF f r - y).toInt64
def insByF (f : Nat → Int32) (p q r s : Nat) : Int64 := insF f p q r (xF f s) (yF f s)
/-- the one ahead of a and b -/
def fstF (f : Nat → Int32) (a b : Nat) : Nat := bif aheadF f b a then b else a
def tieF (f : Nat → Int32) (p q r s c : Nat) : Bool := bif decide (c = p) then !(decide (turnF f p s r ≤ 0)) else bif decide (c = q) then !(decide (0 ≤ turnF f q s r)) else decide (c = s)
def betF (f : Nat → Int32) (p q r s : Nat) : Bool := bif decide (lg_cmp (insByF f p q r s) 0 = 0) then tieF f p q r s (fstF f (fstF f (fstF f p q) r) s) else !(decide (lg_cmp (insByF f p q r s) 0 ≤ 0))
def pNone : Nat := 4294967295
def cStep (f : Nat → Int32) (p q : Nat) (best r : Nat) : Nat := bif isP f r && !(decide (turnF f p q r ≤ 0)) && seesF f p r && seesF f q r && (Nat.beq best pNone || betF f p q best r) then r else best
def cornF (f : Nat → Int32) (p q : Nat) : Nat := (List.range' 0 40).foldl (cStep f p q) pNone
theorem nI_none {k : Nat} (h : k < 2 ^ 31) : ¬ nI k = nI 4294967295 := fun e => by
  have h1 := congrArg Int32.toInt e
  rw [nI_toInt h, show (nI 4294967295).toInt = -1 from by decide] at h1
  omega
theorem r_isAhead {w : pW} {o c n : Nat} {f : Nat → Int32} {fs : List Value} (ho : w[o]? = some (.inr (9, .ref c :: fs))) (hc : w[c]? = some (.inl (0, n, .inl f))) (hn : 1780 ≤ n) (hn2 : n < 2 ^ 31) {p q : Nat} (hp : p < 40) (hq : q < 40) : pRun 200 [.ref o, .int (nI p), .int (nI q)] w (some (.int (bI (aheadF f p q)))) w := by
  refine pr_run rfl ?_
  refine pr_go rfl (s_aload_n rfl) ?_
  refine pr_go rfl (s_iload_n rfl) ?_
  refine pr_call rfl (s_invV rfl ho rfl rfl) (r_xOf ho hc hn hn2 (k := p) (by omega)) ?_
  refine pr_go rfl (s_aload_n rfl) ?_
  refine pr_go rfl (s_iload_n rfl) ?_
  refine pr_call rfl (s_invV rfl ho rfl rfl) (r_xOf ho hc hn hn2 (k := q) (by omega)) ?_
  by_cases h10 : xF f p = xF f q
  · skip
    refine pr_go rfl (s_icmp_eq_t h10) ?_
    refine pr_go rfl (s_aload_n rfl) ?_
    refine pr_go rfl (s_iload_n rfl) ?_
    refine pr_call rfl (s_invV rfl ho rfl rfl) (r_yOf ho hc hn hn2 (k := p) (by omega)) ?_
    refine pr_go rfl (s_aload_n rfl) ?_
    refine pr_go rfl (s_iload_n rfl) ?_
    refine pr_call rfl (s_invV rfl ho rfl rfl) (r_yOf ho hc hn hn2 (k := q) (by omega)) ?_
    by_cases h44 : yF f q ≤ yF f p
    · skip
      refine pr_go rfl (s_icmp_ge_t h44) ?_
      refine pr_go rfl s_iconst ?_
      exact pr_retE (r' := some (.int (nI 0))) rfl s_ret0 (by unfold aheadF bI; simp only [decide_eq_true h10, decide_eq_true h44]; rfl)
    · skip
      refine pr_go rfl (s_icmp_ge_f h44) ?_
      refine pr_go rfl s_iconst ?_
      refine pr_go rfl s_goto ?_
      exact pr_retE (r' := some (.int (nI 1))) rfl s_ret1 (by unfold aheadF bI; simp only [decide_eq_true h10, decide_eq_false h44]; rfl)
  · skip
    refine pr_go rfl (s_icmp_eq_f h10) ?_
    refine pr_go rfl (s_aload_n rfl) ?_
    refine pr_go rfl (s_iload_n rfl) ?_
    refine pr_call rfl (s_invV rfl ho rfl rfl) (r_xOf ho hc hn hn2 (k := p) (by omega)) ?_
    refine pr_go rfl (s_aload_n rfl) ?_
    refine pr_go rfl (s_iload_n rfl) ?_
    refine pr_call rfl (s_invV rfl ho rfl rfl) (r_xOf ho hc hn hn2 (k := q) (by omega)) ?_
    by_cases h23 : xF f q ≤ xF f p
    · skip
      refine pr_go rfl (s_icmp_ge_t h23) ?_
      refine pr_go rfl s_iconst ?_
      refine pr_go rfl s_goto ?_
      exact pr_retE (r' := some (.int (nI 0))) rfl s_ret0 (by unfold aheadF bI; simp only [decide_eq_false h10, decide_eq_true h23]; rfl)
    · skip
      refine pr_go rfl (s_icmp_ge_f h23) ?_
      refine pr_go rfl s_iconst ?_
      refine pr_go rfl s_goto ?_
      exact pr_retE (r' := some (.int (nI 1))) rfl s_ret1 (by unfold aheadF bI; simp only [decide_eq_false h10, decide_eq_false h23]; rfl)
theorem r_insideOf {w : pW} {o c n : Nat} {f : Nat → Int32} {fs : List Value} (ho : w[o]? = some (.inr (9, .ref c :: fs))) (hc : w[c]? = some (.inl (0, n, .inl f))) (hn : 1780 ≤ n) (hn2 : n < 2 ^ 31) {p q : Nat} (hp : p < 40) (hq : q < 40) {r : Nat} (hr : r < 40) {x y : Int32} : pRun 210 [.ref o, .int (nI p), .int (nI q), .int (nI r), .int x, .int y] w (some (.long (insF f p q r x y))) w := by
  refine pr_run rfl ?_
  refine pr_go rfl (s_aload_n rfl) ?_
  refine pr_go rfl (s_iload_n rfl) ?_
  refine pr_call rfl (s_invV rfl ho rfl rfl) (r_xOf ho hc hn hn2 (k := p) (by omega)) ?_
  refine pr_go rfl (s_iload rfl) ?_
  refine pr_go rfl s_isub ?_
  refine pr_go rfl s_i2l ?_
  refine pr_go rfl (s_lstore (lv' := [(6, .long (((xF f p) - (x)).toInt64)), (0, .ref o), (1, .int (nI p)), (2, .int (nI q)), (3, .int (nI r)), (4, .int x), (5, .int y)]) rfl) ?_
  refine pr_go rfl (s_aload_n rfl) ?_
  refine pr_go rfl (s_iload_n rfl) ?_
  refine pr_call rfl (s_invV rfl ho rfl rfl) (r_yOf ho hc hn hn2 (k := p) (by omega)) ?_
  refine pr_go rfl (s_iload rfl) ?_
  refine pr_go rfl s_isub ?_
  refine pr_go rfl s_i2l ?_
  refine pr_go rfl (s_lstore (lv' := [(8, .long (((yF f p) - (y)).toInt64)), (6, .long (((xF f p) - (x)).toInt64)), (0, .ref o), (1, .int (nI p)), (2, .int (nI q)), (3, .int (nI r)), (4, .int x), (5, .int y)]) rfl) ?_
  refine pr_go rfl (s_aload_n rfl) ?_
  refine pr_go rfl (s_iload_n rfl) ?_
  refine pr_call rfl (s_invV rfl ho rfl rfl) (r_xOf ho hc hn hn2 (k := q) (by omega)) ?_
  refine pr_go rfl (s_iload rfl) ?_
  refine pr_go rfl s_isub ?_
  refine pr_go rfl s_i2l ?_
  refine pr_go rfl (s_lstore (lv' := [(10, .long (((xF f q) - (x)).toInt64)), (8, .long (((yF f p) - (y)).toInt64)), (6, .long (((xF f p) - (x)).toInt64)), (0, .ref o), (1, .int (nI p)), (2, .int (nI q)), (3, .int (nI r)), (4, .int x), (5, .int y)]) rfl) ?_
  refine pr_go rfl (s_aload_n rfl) ?_
  refine pr_go rfl (s_iload_n rfl) ?_
  refine pr_call rfl (s_invV rfl ho rfl rfl) (r_yOf ho hc hn hn2 (k := q) (by omega)) ?_
  refine pr_go rfl (s_iload rfl) ?_
  refine pr_go rfl s_isub ?_
  refine pr_go rfl s_i2l ?_
  refine pr_go rfl (s_lstore (lv' := [(12, .long (((yF f q) - (y)).toInt64)), (10, .long (((xF f q) - (x)).toInt64)), (8, .long (((yF f p) - (y)).toInt64)), (6, .long (((xF f p) - (x)).toInt64)), (0, .ref o), (1, .int (nI p)), (2, .int (nI q)), (3, .int (nI r)), (4, .int x), (5, .int y)]) rfl) ?_
  refine pr_go rfl (s_aload_n rfl) ?_
  refine pr_go rfl (s_iload_n rfl) ?_
  refine pr_call rfl (s_invV rfl ho rfl rfl) (r_xOf ho hc hn hn2 (k := r) (by omega)) ?_
  refine pr_go rfl (s_iload rfl) ?_
  refine pr_go rfl s_isub ?_
  refine pr_go rfl s_i2l ?_
  refine pr_go rfl (s_lstore (lv' := [(14, .long (((xF f r) - (x)).toInt64)), (12, .long (((yF f q) - (y)).toInt64)), (10, .long (((xF f q) - (x)).toInt64)), (8, .long (((yF f p) - (y)).toInt64)), (6, .long (((xF f p) - (x)).toInt64)), (0, .ref o), (1, .int (nI p)), (2, .int (nI q)), (3, .int (nI r)), (4, .int x), (5, .int y)]) rfl) ?_
  refine pr_go rfl (s_aload_n rfl) ?_
  refine pr_go rfl (s_iload_n rfl) ?_
  refine pr_call rfl (s_invV rfl ho rfl rfl) (r_yOf ho hc hn hn2 (k := r) (by omega)) ?_
  refine pr_go rfl (s_iload rfl) ?_
  refine pr_go rfl s_isub ?_
  refine pr_go rfl s_i2l ?_
  refine pr_go rfl (s_lstore (lv' := [(16, .long (((yF f r) - (y)).toInt64)), (14, .long (((xF f r) - (x)).toInt64)), (12, .long (((yF f q) - (y)).toInt64)), (10, .long (((xF f q) - (x)).toInt64)), (8, .long (((yF f p) - (y)).toInt64)), (6, .long (((xF f p) - (x)).toInt64)), (0, .ref o), (1, .int (nI p)), (2, .int (nI q)), (3, .int (nI r)), (4, .int x), (5, .int y)]) rfl) ?_
  refine pr_go rfl (s_lload rfl) ?_
  refine pr_go rfl (s_lload rfl) ?_
  refine pr_go rfl s_lmul ?_
  refine pr_go rfl (s_lload rfl) ?_
  refine pr_go rfl (s_lload rfl) ?_
  refine pr_go rfl s_lmul ?_
  refine pr_go rfl s_ladd ?_
  refine pr_go rfl (s_lload rfl) ?_
  refine pr_go rfl (s_lload rfl) ?_
  refine pr_go rfl s_lmul ?_
  refine pr_go rfl (s_lload rfl) ?_
  refine pr_go rfl (s_lload rfl) ?_
  refine pr_go rfl s_lmul ?_
  refine pr_go rfl s_lsub ?_
  refine pr_go rfl s_lmul ?_
  refine pr_go rfl (s_lload rfl) ?_
  refine pr_go rfl (s_lload rfl) ?_
  refine pr_go rfl s_lmul ?_
  refine pr_go rfl (s_lload rfl) ?_
  refine pr_go rfl (s_lload rfl) ?_
  refine pr_go rfl s_lmul ?_
  refine pr_go rfl s_ladd ?_
  refine pr_go rfl (s_lload rfl) ?_
  refine pr_go rfl (s_lload rfl) ?_
  refine pr_go rfl s_lmul ?_
  refine pr_go rfl (s_lload rfl) ?_
  refine pr_go rfl (s_lload rfl) ?_
  refine pr_go rfl s_lmul ?_
  refine pr_go rfl s_lsub ?_
  refine pr_go rfl s_lmul ?_
  refine pr_go rfl s_lsub ?_
  refine pr_go rfl (s_lload rfl) ?_
  refine pr_go rfl (s_lload rfl) ?_
  refine pr_go rfl s_lmul ?_
  refine pr_go rfl (s_lload rfl) ?_
  refine pr_go rfl (s_lload rfl) ?_
  refine pr_go rfl s_lmul ?_
  refine pr_go rfl s_ladd ?_
  refine pr_go rfl (s_lload rfl) ?_
  refine pr_go rfl (s_lload rfl) ?_
  refine pr_go rfl s_lmul ?_
  refine pr_go rfl (s_lload rfl) ?_
  refine pr_go rfl (s_lload rfl) ?_
  refine pr_go rfl s_lmul ?_
  refine pr_go rfl s_lsub ?_
  refine pr_go rfl s_lmul ?_
  refine pr_go rfl s_ladd ?_
  exact pr_retE (r' := some (.long ((((((((xF f p) - (x)).toInt64) * (((xF f p) - (x)).toInt64)) + ((((yF f p) - (y)).toInt64) * (((yF f p) - (y)).toInt64))) * (((((xF f q) - (x)).toInt64) * (((yF f r) - (y)).toInt64)) - ((((yF f q) - (y)).toInt64) * (((xF f r) - (x)).toInt64)))) - ((((((xF f q) - (x)).toInt64) * (((xF f q) - (x)).toInt64)) + ((((yF f q) - (y)).toInt64) * (((yF f q) - (y)).toInt64))) * (((((xF f p) - (x)).toInt64) * (((yF f r) - (y)).toInt64)) - ((((yF f p) - (y)).toInt64) * (((xF f r) - (x)).toInt64))))) + ((((((xF f r) - (x)).toInt64) * (((xF f r) - (x)).toInt64)) + ((((yF f r) - (y)).toInt64) * (((yF f r) - (y)).toInt64))) * (((((xF f p) - (x)).toInt64) * (((yF f q) - (y)).toInt64)) - ((((yF f p) - (y)).toInt64) * (((xF f q) - (x)).toInt64))))))) rfl s_retL (rfl)
theorem r_insideBy {w : pW} {o c n : Nat} {f : Nat → Int32} {fs : List Value} (ho : w[o]? = some (.inr (9, .ref c :: fs))) (hc : w[c]? = some (.inl (0, n, .inl f))) (hn : 1780 ≤ n) (hn2 : n < 2 ^ 31) {p q : Nat} (hp : p < 40) (hq : q < 40) {r s : Nat} (hr : r < 40) (hs : s < 40) : pRun 211 [.ref o, .int (nI p), .int (nI q), .int (nI r), .int (nI s)] w (some (.long (insByF f p q r s))) w := by
  refine pr_run rfl ?_
  refine pr_go rfl (s_aload_n rfl) ?_
  refine pr_go rfl (s_iload_n rfl) ?_
  refine pr_go rfl (s_iload_n rfl) ?_
  refine pr_go rfl (s_iload_n rfl) ?_
  refine pr_go rfl (s_aload_n rfl) ?_
  refine pr_go rfl (s_iload rfl) ?_
  refine pr_call rfl (s_invV rfl ho rfl rfl) (r_xOf ho hc hn hn2 (k := s) (by omega)) ?_
  refine pr_go rfl (s_aload_n rfl) ?_
  refine pr_go rfl (s_iload rfl) ?_
  refine pr_call rfl (s_invV rfl ho rfl rfl) (r_yOf ho hc hn hn2 (k := s) (by omega)) ?_
  refine pr_call rfl (s_invV rfl ho rfl rfl) (r_insideOf ho hc hn hn2 (p := p) (q := q) (by omega) (by omega) (r := r) (by omega) (x := xF f s) (y := yF f s)) ?_
  exact pr_retE (r' := some (.long (insF f p q r (xF f s) (yF f s)))) rfl s_retL (rfl)
theorem r_isBetter {w : pW} {o c n : Nat} {f : Nat → Int32} {fs : List Value} (ho : w[o]? = some (.inr (9, .ref c :: fs))) (hc : w[c]? = some (.inl (0, n, .inl f))) (hn : 1780 ≤ n) (hn2 : n < 2 ^ 31) {p q : Nat} (hp : p < 40) (hq : q < 40) {r s : Nat} (hr : r < 40) (hs : s < 40) : pRun 214 [.ref o, .int (nI p), .int (nI q), .int (nI r), .int (nI s)] w (some (.int (bI (betF f p q r s)))) w := by
  refine pr_run rfl ?_
  refine pr_go rfl (s_aload_n rfl) ?_
  refine pr_go rfl (s_iload_n rfl) ?_
  refine pr_go rfl (s_iload_n rfl) ?_
  refine pr_go rfl (s_iload_n rfl) ?_
  refine pr_go rfl (s_iload rfl) ?_
  refine pr_call rfl (s_invV rfl ho rfl rfl) (r_insideBy ho hc hn hn2 (p := p) (q := q) (by omega) (by omega) (r := r) (s := s) (by omega) (by omega)) ?_
  refine pr_go rfl (s_lstore (lv' := [(5, .long (insByF f p q r s)), (0, .ref o), (1, .int (nI p)), (2, .int (nI q)), (3, .int (nI r)), (4, .int (nI s))]) rfl) ?_
  refine pr_go rfl (s_lload rfl) ?_
  refine pr_go rfl s_lconst0 ?_
  refine pr_go rfl s_lcmp ?_
  by_cases h15 : lg_cmp (insByF f p q r s) 0 = 0
  · skip
    refine pr_go rfl (s_if_eq_t h15) ?_
    refine pr_go rfl (s_iload_n rfl) ?_
    refine pr_go rfl (s_istore (lv' := [(7, .int (nI p)), (5, .long (insByF f p q r s)), (0, .ref o), (1, .int (nI p)), (2, .int (nI q)), (3, .int (nI r)), (4, .int (nI s))]) rfl) ?_
    refine pr_go rfl (s_aload_n rfl) ?_
    refine pr_go rfl (s_iload_n rfl) ?_
    refine pr_go rfl (s_iload rfl) ?_
    refine pr_call rfl (s_invV rfl ho rfl rfl) (r_isAhead ho hc hn hn2 (p := q) (q := p) (by omega) (by omega)) ?_
    cases h41 : (aheadF f q p)
    · skip
      refine pr_go rfl (s_if_eq_t (by decide)) ?_
      refine pr_go rfl (s_aload_n rfl) ?_
      refine pr_go rfl (s_iload_n rfl) ?_
      refine pr_go rfl (s_iload rfl) ?_
      refine pr_call rfl (s_invV rfl ho rfl rfl) (r_isAhead ho hc hn hn2 (p := r) (q := p) (by omega) (by omega)) ?_
      cases h54 : (aheadF f r p)
      · skip
        refine pr_go rfl (s_if_eq_t (by decide)) ?_
        refine pr_go rfl (s_aload_n rfl) ?_
        refine pr_go rfl (s_iload rfl) ?_
        refine pr_go rfl (s_iload rfl) ?_
        refine pr_call rfl (s_invV rfl ho rfl rfl) (r_isAhead ho hc hn hn2 (p := s) (q := p) (by omega) (by omega)) ?_
        cases h68 : (aheadF f s p)
        · skip
          refine pr_go rfl (s_if_eq_t (by decide)) ?_
          refine pr_go rfl (s_iload rfl) ?_
          refine pr_go rfl (s_iload_n rfl) ?_
          refine pr_go rfl (s_icmp_ne_f (fun e => e rfl)) ?_
          refine pr_go rfl (s_aload_n rfl) ?_
          refine pr_go rfl (s_iload_n rfl) ?_
          refine pr_go rfl (s_iload rfl) ?_
          refine pr_go rfl (s_iload_n rfl) ?_
          refine pr_call rfl (s_invV rfl ho rfl rfl) (r_turnOf ho hc hn hn2 (p := p) (q := s) (r := r) (by omega) (by omega) (by omega)) ?_
          by_cases h89 : turnF f p s r ≤ 0
          · skip
            refine pr_go rfl (s_if_le_t h89) ?_
            refine pr_go rfl s_iconst ?_
            exact pr_retE (r' := some (.int (nI 0))) rfl s_ret0 (by unfold betF; simp only [fstF, tieF, bI, decide_eq_true h15, h41, h54, h68, decide_eq_true h89, cond_true, cond_false, decide_true]; rfl)
          · skip
            refine pr_go rfl (s_if_le_f h89) ?_
            refine pr_go rfl s_iconst ?_
            refine pr_go rfl s_goto ?_
            exact pr_retE (r' := some (.int (nI 1))) rfl s_ret1 (by unfold betF; simp only [fstF, tieF, bI, decide_eq_true h15, h41, h54, h68, decide_eq_false h89, cond_true, cond_false, decide_true]; rfl)
        · skip
          refine pr_go rfl (s_if_eq_f (by decide)) ?_
          refine pr_go rfl (s_iload rfl) ?_
          refine pr_go rfl (s_istore (lv' := [(7, .int (nI s)), (5, .long (insByF f p q r s)), (0, .ref o), (1, .int (nI p)), (2, .int (nI q)), (3, .int (nI r)), (4, .int (nI s))]) rfl) ?_
          refine pr_go rfl (s_iload rfl) ?_
          refine pr_go rfl (s_iload_n rfl) ?_
          by_cases h78 : s = p
          · skip
            refine pr_go rfl (s_icmp_ne_f (fun e => e (by rw [h78]))) ?_
            refine pr_go rfl (s_aload_n rfl) ?_
            refine pr_go rfl (s_iload_n rfl) ?_
            refine pr_go rfl (s_iload rfl) ?_
            refine pr_go rfl (s_iload_n rfl) ?_
            refine pr_call rfl (s_invV rfl ho rfl rfl) (r_turnOf ho hc hn hn2 (p := p) (q := s) (r := r) (by omega) (by omega) (by omega)) ?_
            by_cases h89 : turnF f p s r ≤ 0
            · skip
              refine pr_go rfl (s_if_le_t h89) ?_
              refine pr_go rfl s_iconst ?_
              exact pr_retE (r' := some (.int (nI 0))) rfl s_ret0 (by unfold betF; simp only [fstF, tieF, bI, decide_eq_true h15, h41, h54, h68, decide_eq_true h78, decide_eq_true h89, cond_true, cond_false, decide_true]; rfl)
            · skip
              refine pr_go rfl (s_if_le_f h89) ?_
              refine pr_go rfl s_iconst ?_
              refine pr_go rfl s_goto ?_
              exact pr_retE (r' := some (.int (nI 1))) rfl s_ret1 (by unfold betF; simp only [fstF, tieF, bI, decide_eq_true h15, h41, h54, h68, decide_eq_true h78, decide_eq_false h89, cond_true, cond_false, decide_true]; rfl)
          · skip
            refine pr_go rfl (s_icmp_ne_t (fun e => h78 ((nI_eq (by omega) (by omega)).mp e))) ?_
            refine pr_go rfl (s_iload rfl) ?_
            refine pr_go rfl (s_iload_n rfl) ?_
            by_cases h101 : s = q
            · skip
              refine pr_go rfl (s_icmp_ne_f (fun e => e (by rw [h101]))) ?_
              refine pr_go rfl (s_aload_n rfl) ?_
              refine pr_go rfl (s_iload_n rfl) ?_
              refine pr_go rfl (s_iload rfl) ?_
              refine pr_go rfl (s_iload_n rfl) ?_
              refine pr_call rfl (s_invV rfl ho rfl rfl) (r_turnOf ho hc hn hn2 (p := q) (q := s) (r := r) (by omega) (by omega) (by omega)) ?_
              by_cases h112 : 0 ≤ turnF f q s r
              · skip
                refine pr_go rfl (s_if_ge_t h112) ?_
                refine pr_go rfl s_iconst ?_
                exact pr_retE (r' := some (.int (nI 0))) rfl s_ret0 (by unfold betF; simp only [fstF, tieF, bI, decide_eq_true h15, h41, h54, h68, decide_eq_false h78, decide_eq_true h101, decide_eq_true h112, cond_true, cond_false, decide_true]; rfl)
              · skip
                refine pr_go rfl (s_if_ge_f h112) ?_
                refine pr_go rfl s_iconst ?_
                refine pr_go rfl s_goto ?_
                exact pr_retE (r' := some (.int (nI 1))) rfl s_ret1 (by unfold betF; simp only [fstF, tieF, bI, decide_eq_true h15, h41, h54, h68, decide_eq_false h78, decide_eq_true h101, decide_eq_false h112, cond_true, cond_false, decide_true]; rfl)
            · skip
              refine pr_go rfl (s_icmp_ne_t (fun e => h101 ((nI_eq (by omega) (by omega)).mp e))) ?_
              refine pr_go rfl (s_iload rfl) ?_
              refine pr_go rfl (s_iload rfl) ?_
              refine pr_go rfl (s_icmp_ne_f (fun e => e rfl)) ?_
              refine pr_go rfl s_iconst ?_
              refine pr_go rfl s_goto ?_
              exact pr_retE (r' := some (.int (nI 1))) rfl s_ret1 (by unfold betF; simp only [fstF, tieF, bI, decide_eq_true h15, h41, h54, h68, decide_eq_false h78, decide_eq_false h101, cond_true, cond_false, decide_true]; rfl)
      · skip
        refine pr_go rfl (s_if_eq_f (by decide)) ?_
        refine pr_go rfl (s_iload_n rfl) ?_
        refine pr_go rfl (s_istore (lv' := [(7, .int (nI r)), (5, .long (insByF f p q r s)), (0, .ref o), (1, .int (nI p)), (2, .int (nI q)), (3, .int (nI r)), (4, .int (nI s))]) rfl) ?_
        refine pr_go rfl (s_aload_n rfl) ?_
        refine pr_go rfl (s_iload rfl) ?_
        refine pr_go rfl (s_iload rfl) ?_
        refine pr_call rfl (s_invV rfl ho rfl rfl) (r_isAhead ho hc hn hn2 (p := s) (q := r) (by omega) (by omega)) ?_
        cases h68 : (aheadF f s r)
        · skip
          refine pr_go rfl (s_if_eq_t (by decide)) ?_
          refine pr_go rfl (s_iload rfl) ?_
          refine pr_go rfl (s_iload_n rfl) ?_
          by_cases h78 : r = p
          · skip
            refine pr_go rfl (s_icmp_ne_f (fun e => e (by rw [h78]))) ?_
            refine pr_go rfl (s_aload_n rfl) ?_
            refine pr_go rfl (s_iload_n rfl) ?_
            refine pr_go rfl (s_iload rfl) ?_
            refine pr_go rfl (s_iload_n rfl) ?_
            refine pr_call rfl (s_invV rfl ho rfl rfl) (r_turnOf ho hc hn hn2 (p := p) (q := s) (r := r) (by omega) (by omega) (by omega)) ?_
            by_cases h89 : turnF f p s r ≤ 0
            · skip
              refine pr_go rfl (s_if_le_t h89) ?_
              refine pr_go rfl s_iconst ?_
              exact pr_retE (r' := some (.int (nI 0))) rfl s_ret0 (by unfold betF; simp only [fstF, tieF, bI, decide_eq_true h15, h41, h54, h68, decide_eq_true h78, decide_eq_true h89, cond_true, cond_false, decide_true]; rfl)
            · skip
              refine pr_go rfl (s_if_le_f h89) ?_
              refine pr_go rfl s_iconst ?_
              refine pr_go rfl s_goto ?_
              exact pr_retE (r' := some (.int (nI 1))) rfl s_ret1 (by unfold betF; simp only [fstF, tieF, bI, decide_eq_true h15, h41, h54, h68, decide_eq_true h78, decide_eq_false h89, cond_true, cond_false, decide_true]; rfl)
          · skip
            refine pr_go rfl (s_icmp_ne_t (fun e => h78 ((nI_eq (by omega) (by omega)).mp e))) ?_
            refine pr_go rfl (s_iload rfl) ?_
            refine pr_go rfl (s_iload_n rfl) ?_
            by_cases h101 : r = q
            · skip
              refine pr_go rfl (s_icmp_ne_f (fun e => e (by rw [h101]))) ?_
              refine pr_go rfl (s_aload_n rfl) ?_
              refine pr_go rfl (s_iload_n rfl) ?_
              refine pr_go rfl (s_iload rfl) ?_
              refine pr_go rfl (s_iload_n rfl) ?_
              refine pr_call rfl (s_invV rfl ho rfl rfl) (r_turnOf ho hc hn hn2 (p := q) (q := s) (r := r) (by omega) (by omega) (by omega)) ?_
              by_cases h112 : 0 ≤ turnF f q s r
              · skip
                refine pr_go rfl (s_if_ge_t h112) ?_
                refine pr_go rfl s_iconst ?_
                exact pr_retE (r' := some (.int (nI 0))) rfl s_ret0 (by unfold betF; simp only [fstF, tieF, bI, decide_eq_true h15, h41, h54, h68, decide_eq_false h78, decide_eq_true h101, decide_eq_true h112, cond_true, cond_false, decide_true]; rfl)
              · skip
                refine pr_go rfl (s_if_ge_f h112) ?_
                refine pr_go rfl s_iconst ?_
                refine pr_go rfl s_goto ?_
                exact pr_retE (r' := some (.int (nI 1))) rfl s_ret1 (by unfold betF; simp only [fstF, tieF, bI, decide_eq_true h15, h41, h54, h68, decide_eq_false h78, decide_eq_true h101, decide_eq_false h112, cond_true, cond_false, decide_true]; rfl)
            · skip
              refine pr_go rfl (s_icmp_ne_t (fun e => h101 ((nI_eq (by omega) (by omega)).mp e))) ?_
              refine pr_go rfl (s_iload rfl) ?_
              refine pr_go rfl (s_iload rfl) ?_
              by_cases h125 : r = s
              · skip
                refine pr_go rfl (s_icmp_ne_f (fun e => e (by rw [h125]))) ?_
                refine pr_go rfl s_iconst ?_
                refine pr_go rfl s_goto ?_
                exact pr_retE (r' := some (.int (nI 1))) rfl s_ret1 (by unfold betF; simp only [fstF, tieF, bI, decide_eq_true h15, h41, h54, h68, decide_eq_false h78, decide_eq_false h101, decide_eq_true h125, cond_true, cond_false, decide_true]; rfl)
              · skip
                refine pr_go rfl (s_icmp_ne_t (fun e => h125 ((nI_eq (by omega) (by omega)).mp e))) ?_
                refine pr_go rfl s_iconst ?_
                exact pr_retE (r' := some (.int (nI 0))) rfl s_ret0 (by unfold betF; simp only [fstF, tieF, bI, decide_eq_true h15, h41, h54, h68, decide_eq_false h78, decide_eq_false h101, decide_eq_false h125, cond_true, cond_false, decide_true]; rfl)
        · skip
          refine pr_go rfl (s_if_eq_f (by decide)) ?_
          refine pr_go rfl (s_iload rfl) ?_
          refine pr_go rfl (s_istore (lv' := [(7, .int (nI s)), (5, .long (insByF f p q r s)), (0, .ref o), (1, .int (nI p)), (2, .int (nI q)), (3, .int (nI r)), (4, .int (nI s))]) rfl) ?_
          refine pr_go rfl (s_iload rfl) ?_
          refine pr_go rfl (s_iload_n rfl) ?_
          by_cases h78 : s = p
          · skip
            refine pr_go rfl (s_icmp_ne_f (fun e => e (by rw [h78]))) ?_
            refine pr_go rfl (s_aload_n rfl) ?_
            refine pr_go rfl (s_iload_n rfl) ?_
            refine pr_go rfl (s_iload rfl) ?_
            refine pr_go rfl (s_iload_n rfl) ?_
            refine pr_call rfl (s_invV rfl ho rfl rfl) (r_turnOf ho hc hn hn2 (p := p) (q := s) (r := r) (by omega) (by omega) (by omega)) ?_
            by_cases h89 : turnF f p s r ≤ 0
            · skip
              refine pr_go rfl (s_if_le_t h89) ?_
              refine pr_go rfl s_iconst ?_
              exact pr_retE (r' := some (.int (nI 0))) rfl s_ret0 (by unfold betF; simp only [fstF, tieF, bI, decide_eq_true h15, h41, h54, h68, decide_eq_true h78, decide_eq_true h89, cond_true, cond_false, decide_true]; rfl)
            · skip
              refine pr_go rfl (s_if_le_f h89) ?_
              refine pr_go rfl s_iconst ?_
              refine pr_go rfl s_goto ?_
              exact pr_retE (r' := some (.int (nI 1))) rfl s_ret1 (by unfold betF; simp only [fstF, tieF, bI, decide_eq_true h15, h41, h54, h68, decide_eq_true h78, decide_eq_false h89, cond_true, cond_false, decide_true]; rfl)
          · skip
            refine pr_go rfl (s_icmp_ne_t (fun e => h78 ((nI_eq (by omega) (by omega)).mp e))) ?_
            refine pr_go rfl (s_iload rfl) ?_
            refine pr_go rfl (s_iload_n rfl) ?_
            by_cases h101 : s = q
            · skip
              refine pr_go rfl (s_icmp_ne_f (fun e => e (by rw [h101]))) ?_
              refine pr_go rfl (s_aload_n rfl) ?_
              refine pr_go rfl (s_iload_n rfl) ?_
              refine pr_go rfl (s_iload rfl) ?_
              refine pr_go rfl (s_iload_n rfl) ?_
              refine pr_call rfl (s_invV rfl ho rfl rfl) (r_turnOf ho hc hn hn2 (p := q) (q := s) (r := r) (by omega) (by omega) (by omega)) ?_
              by_cases h112 : 0 ≤ turnF f q s r
              · skip
                refine pr_go rfl (s_if_ge_t h112) ?_
                refine pr_go rfl s_iconst ?_
                exact pr_retE (r' := some (.int (nI 0))) rfl s_ret0 (by unfold betF; simp only [fstF, tieF, bI, decide_eq_true h15, h41, h54, h68, decide_eq_false h78, decide_eq_true h101, decide_eq_true h112, cond_true, cond_false, decide_true]; rfl)
              · skip
                refine pr_go rfl (s_if_ge_f h112) ?_
                refine pr_go rfl s_iconst ?_
                refine pr_go rfl s_goto ?_
                exact pr_retE (r' := some (.int (nI 1))) rfl s_ret1 (by unfold betF; simp only [fstF, tieF, bI, decide_eq_true h15, h41, h54, h68, decide_eq_false h78, decide_eq_true h101, decide_eq_false h112, cond_true, cond_false, decide_true]; rfl)
            · skip
              refine pr_go rfl (s_icmp_ne_t (fun e => h101 ((nI_eq (by omega) (by omega)).mp e))) ?_
              refine pr_go rfl (s_iload rfl) ?_
              refine pr_go rfl (s_iload rfl) ?_
              refine pr_go rfl (s_icmp_ne_f (fun e => e rfl)) ?_
              refine pr_go rfl s_iconst ?_
              refine pr_go rfl s_goto ?_
              exact pr_retE (r' := some (.int (nI 1))) rfl s_ret1 (by unfold betF; simp only [fstF, tieF, bI, decide_eq_true h15, h41, h54, h68, decide_eq_false h78, decide_eq_false h101, cond_true, cond_false, decide_true]; rfl)
    · skip
      refine pr_go rfl (s_if_eq_f (by decide)) ?_
      refine pr_go rfl (s_iload_n rfl) ?_
      refine pr_go rfl (s_istore (lv' := [(7, .int (nI q)), (5, .long (insByF f p q r s)), (0, .ref o), (1, .int (nI p)), (2, .int (nI q)), (3, .int (nI r)), (4, .int (nI s))]) rfl) ?_
      refine pr_go rfl (s_aload_n rfl) ?_
      refine pr_go rfl (s_iload_n rfl) ?_
      refine pr_go rfl (s_iload rfl) ?_
      refine pr_call rfl (s_invV rfl ho rfl rfl) (r_isAhead ho hc hn hn2 (p := r) (q := q) (by omega) (by omega)) ?_
      cases h54 : (aheadF f r q)
      · skip
        refine pr_go rfl (s_if_eq_t (by decide)) ?_
        refine pr_go rfl (s_aload_n rfl) ?_
        refine pr_go rfl (s_iload rfl) ?_
        refine pr_go rfl (s_iload rfl) ?_
        refine pr_call rfl (s_invV rfl ho rfl rfl) (r_isAhead ho hc hn hn2 (p := s) (q := q) (by omega) (by omega)) ?_
        cases h68 : (aheadF f s q)
        · skip
          refine pr_go rfl (s_if_eq_t (by decide)) ?_
          refine pr_go rfl (s_iload rfl) ?_
          refine pr_go rfl (s_iload_n rfl) ?_
          by_cases h78 : q = p
          · skip
            refine pr_go rfl (s_icmp_ne_f (fun e => e (by rw [h78]))) ?_
            refine pr_go rfl (s_aload_n rfl) ?_
            refine pr_go rfl (s_iload_n rfl) ?_
            refine pr_go rfl (s_iload rfl) ?_
            refine pr_go rfl (s_iload_n rfl) ?_
            refine pr_call rfl (s_invV rfl ho rfl rfl) (r_turnOf ho hc hn hn2 (p := p) (q := s) (r := r) (by omega) (by omega) (by omega)) ?_
            by_cases h89 : turnF f p s r ≤ 0
            · skip
              refine pr_go rfl (s_if_le_t h89) ?_
              refine pr_go rfl s_iconst ?_
              exact pr_retE (r' := some (.int (nI 0))) rfl s_ret0 (by unfold betF; simp only [fstF, tieF, bI, decide_eq_true h15, h41, h54, h68, decide_eq_true h78, decide_eq_true h89, cond_true, cond_false, decide_true]; rfl)
            · skip
              refine pr_go rfl (s_if_le_f h89) ?_
              refine pr_go rfl s_iconst ?_
              refine pr_go rfl s_goto ?_
              exact pr_retE (r' := some (.int (nI 1))) rfl s_ret1 (by unfold betF; simp only [fstF, tieF, bI, decide_eq_true h15, h41, h54, h68, decide_eq_true h78, decide_eq_false h89, cond_true, cond_false, decide_true]; rfl)
          · skip
            refine pr_go rfl (s_icmp_ne_t (fun e => h78 ((nI_eq (by omega) (by omega)).mp e))) ?_
            refine pr_go rfl (s_iload rfl) ?_
            refine pr_go rfl (s_iload_n rfl) ?_
            refine pr_go rfl (s_icmp_ne_f (fun e => e rfl)) ?_
            refine pr_go rfl (s_aload_n rfl) ?_
            refine pr_go rfl (s_iload_n rfl) ?_
            refine pr_go rfl (s_iload rfl) ?_
            refine pr_go rfl (s_iload_n rfl) ?_
            refine pr_call rfl (s_invV rfl ho rfl rfl) (r_turnOf ho hc hn hn2 (p := q) (q := s) (r := r) (by omega) (by omega) (by omega)) ?_
            by_cases h112 : 0 ≤ turnF f q s r
            · skip
              refine pr_go rfl (s_if_ge_t h112) ?_
              refine pr_go rfl s_iconst ?_
              exact pr_retE (r' := some (.int (nI 0))) rfl s_ret0 (by unfold betF; simp only [fstF, tieF, bI, decide_eq_true h15, h41, h54, h68, decide_eq_false h78, decide_eq_true h112, cond_true, cond_false, decide_true]; rfl)
            · skip
              refine pr_go rfl (s_if_ge_f h112) ?_
              refine pr_go rfl s_iconst ?_
              refine pr_go rfl s_goto ?_
              exact pr_retE (r' := some (.int (nI 1))) rfl s_ret1 (by unfold betF; simp only [fstF, tieF, bI, decide_eq_true h15, h41, h54, h68, decide_eq_false h78, decide_eq_false h112, cond_true, cond_false, decide_true]; rfl)
        · skip
          refine pr_go rfl (s_if_eq_f (by decide)) ?_
          refine pr_go rfl (s_iload rfl) ?_
          refine pr_go rfl (s_istore (lv' := [(7, .int (nI s)), (5, .long (insByF f p q r s)), (0, .ref o), (1, .int (nI p)), (2, .int (nI q)), (3, .int (nI r)), (4, .int (nI s))]) rfl) ?_
          refine pr_go rfl (s_iload rfl) ?_
          refine pr_go rfl (s_iload_n rfl) ?_
          by_cases h78 : s = p
          · skip
            refine pr_go rfl (s_icmp_ne_f (fun e => e (by rw [h78]))) ?_
            refine pr_go rfl (s_aload_n rfl) ?_
            refine pr_go rfl (s_iload_n rfl) ?_
            refine pr_go rfl (s_iload rfl) ?_
            refine pr_go rfl (s_iload_n rfl) ?_
            refine pr_call rfl (s_invV rfl ho rfl rfl) (r_turnOf ho hc hn hn2 (p := p) (q := s) (r := r) (by omega) (by omega) (by omega)) ?_
            by_cases h89 : turnF f p s r ≤ 0
            · skip
              refine pr_go rfl (s_if_le_t h89) ?_
              refine pr_go rfl s_iconst ?_
              exact pr_retE (r' := some (.int (nI 0))) rfl s_ret0 (by unfold betF; simp only [fstF, tieF, bI, decide_eq_true h15, h41, h54, h68, decide_eq_true h78, decide_eq_true h89, cond_true, cond_false, decide_true]; rfl)
            · skip
              refine pr_go rfl (s_if_le_f h89) ?_
              refine pr_go rfl s_iconst ?_
              refine pr_go rfl s_goto ?_
              exact pr_retE (r' := some (.int (nI 1))) rfl s_ret1 (by unfold betF; simp only [fstF, tieF, bI, decide_eq_true h15, h41, h54, h68, decide_eq_true h78, decide_eq_false h89, cond_true, cond_false, decide_true]; rfl)
          · skip
            refine pr_go rfl (s_icmp_ne_t (fun e => h78 ((nI_eq (by omega) (by omega)).mp e))) ?_
            refine pr_go rfl (s_iload rfl) ?_
            refine pr_go rfl (s_iload_n rfl) ?_
            by_cases h101 : s = q
            · skip
              refine pr_go rfl (s_icmp_ne_f (fun e => e (by rw [h101]))) ?_
              refine pr_go rfl (s_aload_n rfl) ?_
              refine pr_go rfl (s_iload_n rfl) ?_
              refine pr_go rfl (s_iload rfl) ?_
              refine pr_go rfl (s_iload_n rfl) ?_
              refine pr_call rfl (s_invV rfl ho rfl rfl) (r_turnOf ho hc hn hn2 (p := q) (q := s) (r := r) (by omega) (by omega) (by omega)) ?_
              by_cases h112 : 0 ≤ turnF f q s r
              · skip
                refine pr_go rfl (s_if_ge_t h112) ?_
                refine pr_go rfl s_iconst ?_
                exact pr_retE (r' := some (.int (nI 0))) rfl s_ret0 (by unfold betF; simp only [fstF, tieF, bI, decide_eq_true h15, h41, h54, h68, decide_eq_false h78, decide_eq_true h101, decide_eq_true h112, cond_true, cond_false, decide_true]; rfl)
              · skip
                refine pr_go rfl (s_if_ge_f h112) ?_
                refine pr_go rfl s_iconst ?_
                refine pr_go rfl s_goto ?_
                exact pr_retE (r' := some (.int (nI 1))) rfl s_ret1 (by unfold betF; simp only [fstF, tieF, bI, decide_eq_true h15, h41, h54, h68, decide_eq_false h78, decide_eq_true h101, decide_eq_false h112, cond_true, cond_false, decide_true]; rfl)
            · skip
              refine pr_go rfl (s_icmp_ne_t (fun e => h101 ((nI_eq (by omega) (by omega)).mp e))) ?_
              refine pr_go rfl (s_iload rfl) ?_
              refine pr_go rfl (s_iload rfl) ?_
              refine pr_go rfl (s_icmp_ne_f (fun e => e rfl)) ?_
              refine pr_go rfl s_iconst ?_
              refine pr_go rfl s_goto ?_
              exact pr_retE (r' := some (.int (nI 1))) rfl s_ret1 (by unfold betF; simp only [fstF, tieF, bI, decide_eq_true h15, h41, h54, h68, decide_eq_false h78, decide_eq_false h101, cond_true, cond_false, decide_true]; rfl)
      · skip
        refine pr_go rfl (s_if_eq_f (by decide)) ?_
        refine pr_go rfl (s_iload_n rfl) ?_
        refine pr_go rfl (s_istore (lv' := [(7, .int (nI r)), (5, .long (insByF f p q r s)), (0, .ref o), (1, .int (nI p)), (2, .int (nI q)), (3, .int (nI r)), (4, .int (nI s))]) rfl) ?_
        refine pr_go rfl (s_aload_n rfl) ?_
        refine pr_go rfl (s_iload rfl) ?_
        refine pr_go rfl (s_iload rfl) ?_
        refine pr_call rfl (s_invV rfl ho rfl rfl) (r_isAhead ho hc hn hn2 (p := s) (q := r) (by omega) (by omega)) ?_
        cases h68 : (aheadF f s r)
        · skip
          refine pr_go rfl (s_if_eq_t (by decide)) ?_
          refine pr_go rfl (s_iload rfl) ?_
          refine pr_go rfl (s_iload_n rfl) ?_
          by_cases h78 : r = p
          · skip
            refine pr_go rfl (s_icmp_ne_f (fun e => e (by rw [h78]))) ?_
            refine pr_go rfl (s_aload_n rfl) ?_
            refine pr_go rfl (s_iload_n rfl) ?_
            refine pr_go rfl (s_iload rfl) ?_
            refine pr_go rfl (s_iload_n rfl) ?_
            refine pr_call rfl (s_invV rfl ho rfl rfl) (r_turnOf ho hc hn hn2 (p := p) (q := s) (r := r) (by omega) (by omega) (by omega)) ?_
            by_cases h89 : turnF f p s r ≤ 0
            · skip
              refine pr_go rfl (s_if_le_t h89) ?_
              refine pr_go rfl s_iconst ?_
              exact pr_retE (r' := some (.int (nI 0))) rfl s_ret0 (by unfold betF; simp only [fstF, tieF, bI, decide_eq_true h15, h41, h54, h68, decide_eq_true h78, decide_eq_true h89, cond_true, cond_false, decide_true]; rfl)
            · skip
              refine pr_go rfl (s_if_le_f h89) ?_
              refine pr_go rfl s_iconst ?_
              refine pr_go rfl s_goto ?_
              exact pr_retE (r' := some (.int (nI 1))) rfl s_ret1 (by unfold betF; simp only [fstF, tieF, bI, decide_eq_true h15, h41, h54, h68, decide_eq_true h78, decide_eq_false h89, cond_true, cond_false, decide_true]; rfl)
          · skip
            refine pr_go rfl (s_icmp_ne_t (fun e => h78 ((nI_eq (by omega) (by omega)).mp e))) ?_
            refine pr_go rfl (s_iload rfl) ?_
            refine pr_go rfl (s_iload_n rfl) ?_
            by_cases h101 : r = q
            · skip
              refine pr_go rfl (s_icmp_ne_f (fun e => e (by rw [h101]))) ?_
              refine pr_go rfl (s_aload_n rfl) ?_
              refine pr_go rfl (s_iload_n rfl) ?_
              refine pr_go rfl (s_iload rfl) ?_
              refine pr_go rfl (s_iload_n rfl) ?_
              refine pr_call rfl (s_invV rfl ho rfl rfl) (r_turnOf ho hc hn hn2 (p := q) (q := s) (r := r) (by omega) (by omega) (by omega)) ?_
              by_cases h112 : 0 ≤ turnF f q s r
              · skip
                refine pr_go rfl (s_if_ge_t h112) ?_
                refine pr_go rfl s_iconst ?_
                exact pr_retE (r' := some (.int (nI 0))) rfl s_ret0 (by unfold betF; simp only [fstF, tieF, bI, decide_eq_true h15, h41, h54, h68, decide_eq_false h78, decide_eq_true h101, decide_eq_true h112, cond_true, cond_false, decide_true]; rfl)
              · skip
                refine pr_go rfl (s_if_ge_f h112) ?_
                refine pr_go rfl s_iconst ?_
                refine pr_go rfl s_goto ?_
                exact pr_retE (r' := some (.int (nI 1))) rfl s_ret1 (by unfold betF; simp only [fstF, tieF, bI, decide_eq_true h15, h41, h54, h68, decide_eq_false h78, decide_eq_true h101, decide_eq_false h112, cond_true, cond_false, decide_true]; rfl)
            · skip
              refine pr_go rfl (s_icmp_ne_t (fun e => h101 ((nI_eq (by omega) (by omega)).mp e))) ?_
              refine pr_go rfl (s_iload rfl) ?_
              refine pr_go rfl (s_iload rfl) ?_
              by_cases h125 : r = s
              · skip
                refine pr_go rfl (s_icmp_ne_f (fun e => e (by rw [h125]))) ?_
                refine pr_go rfl s_iconst ?_
                refine pr_go rfl s_goto ?_
                exact pr_retE (r' := some (.int (nI 1))) rfl s_ret1 (by unfold betF; simp only [fstF, tieF, bI, decide_eq_true h15, h41, h54, h68, decide_eq_false h78, decide_eq_false h101, decide_eq_true h125, cond_true, cond_false, decide_true]; rfl)
              · skip
                refine pr_go rfl (s_icmp_ne_t (fun e => h125 ((nI_eq (by omega) (by omega)).mp e))) ?_
                refine pr_go rfl s_iconst ?_
                exact pr_retE (r' := some (.int (nI 0))) rfl s_ret0 (by unfold betF; simp only [fstF, tieF, bI, decide_eq_true h15, h41, h54, h68, decide_eq_false h78, decide_eq_false h101, decide_eq_false h125, cond_true, cond_false, decide_true]; rfl)
        · skip
          refine pr_go rfl (s_if_eq_f (by decide)) ?_
          refine pr_go rfl (s_iload rfl) ?_
          refine pr_go rfl (s_istore (lv' := [(7, .int (nI s)), (5, .long (insByF f p q r s)), (0, .ref o), (1, .int (nI p)), (2, .int (nI q)), (3, .int (nI r)), (4, .int (nI s))]) rfl) ?_
          refine pr_go rfl (s_iload rfl) ?_
          refine pr_go rfl (s_iload_n rfl) ?_
          by_cases h78 : s = p
          · skip
            refine pr_go rfl (s_icmp_ne_f (fun e => e (by rw [h78]))) ?_
            refine pr_go rfl (s_aload_n rfl) ?_
            refine pr_go rfl (s_iload_n rfl) ?_
            refine pr_go rfl (s_iload rfl) ?_
            refine pr_go rfl (s_iload_n rfl) ?_
            refine pr_call rfl (s_invV rfl ho rfl rfl) (r_turnOf ho hc hn hn2 (p := p) (q := s) (r := r) (by omega) (by omega) (by omega)) ?_
            by_cases h89 : turnF f p s r ≤ 0
            · skip
              refine pr_go rfl (s_if_le_t h89) ?_
              refine pr_go rfl s_iconst ?_
              exact pr_retE (r' := some (.int (nI 0))) rfl s_ret0 (by unfold betF; simp only [fstF, tieF, bI, decide_eq_true h15, h41, h54, h68, decide_eq_true h78, decide_eq_true h89, cond_true, cond_false, decide_true]; rfl)
            · skip
              refine pr_go rfl (s_if_le_f h89) ?_
              refine pr_go rfl s_iconst ?_
              refine pr_go rfl s_goto ?_
              exact pr_retE (r' := some (.int (nI 1))) rfl s_ret1 (by unfold betF; simp only [fstF, tieF, bI, decide_eq_true h15, h41, h54, h68, decide_eq_true h78, decide_eq_false h89, cond_true, cond_false, decide_true]; rfl)
          · skip
            refine pr_go rfl (s_icmp_ne_t (fun e => h78 ((nI_eq (by omega) (by omega)).mp e))) ?_
            refine pr_go rfl (s_iload rfl) ?_
            refine pr_go rfl (s_iload_n rfl) ?_
            by_cases h101 : s = q
            · skip
              refine pr_go rfl (s_icmp_ne_f (fun e => e (by rw [h101]))) ?_
              refine pr_go rfl (s_aload_n rfl) ?_
              refine pr_go rfl (s_iload_n rfl) ?_
              refine pr_go rfl (s_iload rfl) ?_
              refine pr_go rfl (s_iload_n rfl) ?_
              refine pr_call rfl (s_invV rfl ho rfl rfl) (r_turnOf ho hc hn hn2 (p := q) (q := s) (r := r) (by omega) (by omega) (by omega)) ?_
              by_cases h112 : 0 ≤ turnF f q s r
              · skip
                refine pr_go rfl (s_if_ge_t h112) ?_
                refine pr_go rfl s_iconst ?_
                exact pr_retE (r' := some (.int (nI 0))) rfl s_ret0 (by unfold betF; simp only [fstF, tieF, bI, decide_eq_true h15, h41, h54, h68, decide_eq_false h78, decide_eq_true h101, decide_eq_true h112, cond_true, cond_false, decide_true]; rfl)
              · skip
                refine pr_go rfl (s_if_ge_f h112) ?_
                refine pr_go rfl s_iconst ?_
                refine pr_go rfl s_goto ?_
                exact pr_retE (r' := some (.int (nI 1))) rfl s_ret1 (by unfold betF; simp only [fstF, tieF, bI, decide_eq_true h15, h41, h54, h68, decide_eq_false h78, decide_eq_true h101, decide_eq_false h112, cond_true, cond_false, decide_true]; rfl)
            · skip
              refine pr_go rfl (s_icmp_ne_t (fun e => h101 ((nI_eq (by omega) (by omega)).mp e))) ?_
              refine pr_go rfl (s_iload rfl) ?_
              refine pr_go rfl (s_iload rfl) ?_
              refine pr_go rfl (s_icmp_ne_f (fun e => e rfl)) ?_
              refine pr_go rfl s_iconst ?_
              refine pr_go rfl s_goto ?_
              exact pr_retE (r' := some (.int (nI 1))) rfl s_ret1 (by unfold betF; simp only [fstF, tieF, bI, decide_eq_true h15, h41, h54, h68, decide_eq_false h78, decide_eq_false h101, cond_true, cond_false, decide_true]; rfl)
  · skip
    refine pr_go rfl (s_if_eq_f h15) ?_
    refine pr_go rfl (s_lload rfl) ?_
    refine pr_go rfl s_lconst0 ?_
    refine pr_go rfl s_lcmp ?_
    by_cases h22 : lg_cmp (insByF f p q r s) 0 ≤ 0
    · skip
      refine pr_go rfl (s_if_le_t h22) ?_
      refine pr_go rfl s_iconst ?_
      exact pr_retE (r' := some (.int (nI 0))) rfl s_ret0 (by unfold betF; simp only [fstF, tieF, bI, decide_eq_false h15, decide_eq_true h22, cond_true, cond_false, decide_true]; rfl)
    · skip
      refine pr_go rfl (s_if_le_f h22) ?_
      refine pr_go rfl s_iconst ?_
      refine pr_go rfl s_goto ?_
      exact pr_retE (r' := some (.int (nI 1))) rfl s_ret1 (by unfold betF; simp only [fstF, tieF, bI, decide_eq_false h15, decide_eq_false h22, cond_true, cond_false, decide_true]; rfl)
theorem l_cornerFor {w : pW} {o c n : Nat} {f : Nat → Int32} {fs : List Value} (ho : w[o]? = some (.inr (9, .ref c :: fs))) (hc : w[c]? = some (.inl (0, n, .inl f))) (hn : 1780 ≤ n) (hn2 : n < 2 ^ 31) {p q : Nat} (hp : p < 40) (hq : q < 40) : ∀ m r best, r + m = 40 → (best = pNone ∨ best < 40) → pRest 215 (5, [(0, .ref o), (1, .int (nI p)), (2, .int (nI q)), (3, .int (nI best)), (4, .int (nI r))], [], w) (some (.int (nI ((List.range' r m).foldl (cStep f p q) best)))) w := by
  intro m
  induction m with
  | zero =>
    intro r best hr hb
    have hr : r = 40 := by omega
    subst hr
    refine pr_go rfl (s_iload rfl) ?_
    refine pr_go rfl s_bipush ?_
    refine pr_go rfl (s_icmp_ge_t (Int32.le_refl _)) ?_
    refine pr_go rfl (s_iload_n rfl) ?_
    exact pr_retE (r' := some (.int (nI best))) rfl s_retI (rfl)
  | succ m ih =>
    intro r best hr hb
    rw [show (List.range' r (m + 1)).foldl (cStep f p q) best = (List.range' (r + 1) m).foldl (cStep f p q) (cStep f p q best r) from by rw [List.range'_succ, List.foldl_cons]]
    rcases hb with hb | hb
    · subst hb
      refine pr_go rfl (s_iload rfl) ?_
      refine pr_go rfl s_bipush ?_
      refine pr_go rfl (s_icmp_ge_f (nI_ge (by omega) (by omega))) ?_
      refine pr_go rfl (s_aload_n rfl) ?_
      refine pr_go rfl (s_iload rfl) ?_
      refine pr_call rfl (s_invV rfl ho rfl rfl) (r_isPoint ho hc hn hn2 (k := r) (by omega)) ?_
      cases h18 : isP f r
      · skip
        refine pr_go rfl (s_if_eq_t (by decide)) ?_
        refine pr_go rfl (s_iinc1 rfl (lv' := [(4, .int (nI (r + 1))), (0, .ref o), (1, .int (nI p)), (2, .int (nI q)), (3, .int (nI pNone))]) (by rw [nI_1]; rfl)) ?_
        refine pr_go rfl s_goto ?_
        rw [show cStep f p q pNone r = pNone from by unfold cStep; simp only [h18]; rfl]
        exact pr_less (lvLe_of rfl rfl (by repeat' (first | exact (fun _ h => absurd h List.not_mem_nil) | refine List.forall_mem_cons.mpr ⟨rfl, ?_⟩))) (ih (r + 1) pNone (by omega) (Or.inl rfl))
      · skip
        refine pr_go rfl (s_if_eq_f (by decide)) ?_
        refine pr_go rfl (s_aload_n rfl) ?_
        refine pr_go rfl (s_iload_n rfl) ?_
        refine pr_go rfl (s_iload_n rfl) ?_
        refine pr_go rfl (s_iload rfl) ?_
        refine pr_call rfl (s_invV rfl ho rfl rfl) (r_turnOf ho hc hn hn2 (p := p) (q := q) (r := r) (by omega) (by omega) (by omega)) ?_
        by_cases h29 : turnF f p q r ≤ 0
        · skip
          refine pr_go rfl (s_if_le_t h29) ?_
          refine pr_go rfl (s_iinc1 rfl (lv' := [(4, .int (nI (r + 1))), (0, .ref o), (1, .int (nI p)), (2, .int (nI q)), (3, .int (nI pNone))]) (by rw [nI_1]; rfl)) ?_
          refine pr_go rfl s_goto ?_
          rw [show cStep f p q pNone r = pNone from by unfold cStep; simp only [h18, decide_eq_true h29]; rfl]
          exact pr_less (lvLe_of rfl rfl (by repeat' (first | exact (fun _ h => absurd h List.not_mem_nil) | refine List.forall_mem_cons.mpr ⟨rfl, ?_⟩))) (ih (r + 1) pNone (by omega) (Or.inl rfl))
        · skip
          refine pr_go rfl (s_if_le_f h29) ?_
          refine pr_go rfl (s_aload_n rfl) ?_
          refine pr_go rfl (s_iload_n rfl) ?_
          refine pr_go rfl (s_iload rfl) ?_
          refine pr_call rfl (s_invV rfl ho rfl rfl) (r_seesNow ho hc hn hn2 (p := p) (q := r) (by omega) (by omega)) ?_
          cases h39 : seesF f p r
          · skip
            refine pr_go rfl (s_if_eq_t (by decide)) ?_
            refine pr_go rfl (s_iinc1 rfl (lv' := [(4, .int (nI (r + 1))), (0, .ref o), (1, .int (nI p)), (2, .int (nI q)), (3, .int (nI pNone))]) (by rw [nI_1]; rfl)) ?_
            refine pr_go rfl s_goto ?_
            rw [show cStep f p q pNone r = pNone from by unfold cStep; simp only [h18, decide_eq_false h29, h39]; rfl]
            exact pr_less (lvLe_of rfl rfl (by repeat' (first | exact (fun _ h => absurd h List.not_mem_nil) | refine List.forall_mem_cons.mpr ⟨rfl, ?_⟩))) (ih (r + 1) pNone (by omega) (Or.inl rfl))
          · skip
            refine pr_go rfl (s_if_eq_f (by decide)) ?_
            refine pr_go rfl (s_aload_n rfl) ?_
            refine pr_go rfl (s_iload_n rfl) ?_
            refine pr_go rfl (s_iload rfl) ?_
            refine pr_call rfl (s_invV rfl ho rfl rfl) (r_seesNow ho hc hn hn2 (p := q) (q := r) (by omega) (by omega)) ?_
            cases h49 : seesF f q r
            · skip
              refine pr_go rfl (s_if_ne_f (by decide)) ?_
              refine pr_go rfl s_goto ?_
              refine pr_go rfl (s_iinc1 rfl (lv' := [(4, .int (nI (r + 1))), (0, .ref o), (1, .int (nI p)), (2, .int (nI q)), (3, .int (nI pNone))]) (by rw [nI_1]; rfl)) ?_
              refine pr_go rfl s_goto ?_
              rw [show cStep f p q pNone r = pNone from by unfold cStep; simp only [h18, decide_eq_false h29, h39, h49]; rfl]
              exact pr_less (lvLe_of rfl rfl (by repeat' (first | exact (fun _ h => absurd h List.not_mem_nil) | refine List.forall_mem_cons.mpr ⟨rfl, ?_⟩))) (ih (r + 1) pNone (by omega) (Or.inl rfl))
            · skip
              refine pr_go rfl (s_if_ne_t (by decide)) ?_
              refine pr_go rfl (s_iload_n rfl) ?_
              refine pr_go rfl s_iconst ?_
              refine pr_go rfl (s_icmp_eq_t rfl) ?_
              refine pr_go rfl (s_iload rfl) ?_
              refine pr_go rfl (s_istore_n (lv' := [(3, .int (nI r)), (0, .ref o), (1, .int (nI p)), (2, .int (nI q)), (4, .int (nI r))]) rfl) ?_
              refine pr_go rfl (s_iinc1 rfl (lv' := [(4, .int (nI (r + 1))), (3, .int (nI r)), (0, .ref o), (1, .int (nI p)), (2, .int (nI q))]) (by rw [nI_1]; rfl)) ?_
              refine pr_go rfl s_goto ?_
              rw [show cStep f p q pNone r = r from by unfold cStep; simp only [h18, decide_eq_false h29, h39, h49]; rfl]
              exact pr_less (lvLe_of rfl rfl (by repeat' (first | exact (fun _ h => absurd h List.not_mem_nil) | refine List.forall_mem_cons.mpr ⟨rfl, ?_⟩))) (ih (r + 1) r (by omega) (Or.inr (by omega)))
    · skip
      refine pr_go rfl (s_iload rfl) ?_
      refine pr_go rfl s_bipush ?_
      refine pr_go rfl (s_icmp_ge_f (nI_ge (by omega) (by omega))) ?_
      refine pr_go rfl (s_aload_n rfl) ?_
      refine pr_go rfl (s_iload rfl) ?_
      refine pr_call rfl (s_invV rfl ho rfl rfl) (r_isPoint ho hc hn hn2 (k := r) (by omega)) ?_
      cases h18 : isP f r
      · skip
        refine pr_go rfl (s_if_eq_t (by decide)) ?_
        refine pr_go rfl (s_iinc1 rfl (lv' := [(4, .int (nI (r + 1))), (0, .ref o), (1, .int (nI p)), (2, .int (nI q)), (3, .int (nI best))]) (by rw [nI_1]; rfl)) ?_
        refine pr_go rfl s_goto ?_
        rw [show cStep f p q best r = best from by unfold cStep; simp only [h18]; rfl]
        exact pr_less (lvLe_of rfl rfl (by repeat' (first | exact (fun _ h => absurd h List.not_mem_nil) | refine List.forall_mem_cons.mpr ⟨rfl, ?_⟩))) (ih (r + 1) best (by omega) (Or.inr hb))
      · skip
        refine pr_go rfl (s_if_eq_f (by decide)) ?_
        refine pr_go rfl (s_aload_n rfl) ?_
        refine pr_go rfl (s_iload_n rfl) ?_
        refine pr_go rfl (s_iload_n rfl) ?_
        refine pr_go rfl (s_iload rfl) ?_
        refine pr_call rfl (s_invV rfl ho rfl rfl) (r_turnOf ho hc hn hn2 (p := p) (q := q) (r := r) (by omega) (by omega) (by omega)) ?_
        by_cases h29 : turnF f p q r ≤ 0
        · skip
          refine pr_go rfl (s_if_le_t h29) ?_
          refine pr_go rfl (s_iinc1 rfl (lv' := [(4, .int (nI (r + 1))), (0, .ref o), (1, .int (nI p)), (2, .int (nI q)), (3, .int (nI best))]) (by rw [nI_1]; rfl)) ?_
          refine pr_go rfl s_goto ?_
          rw [show cStep f p q best r = best from by unfold cStep; simp only [h18, decide_eq_true h29]; rfl]
          exact pr_less (lvLe_of rfl rfl (by repeat' (first | exact (fun _ h => absurd h List.not_mem_nil) | refine List.forall_mem_cons.mpr ⟨rfl, ?_⟩))) (ih (r + 1) best (by omega) (Or.inr hb))
        · skip
          refine pr_go rfl (s_if_le_f h29) ?_
          refine pr_go rfl (s_aload_n rfl) ?_
          refine pr_go rfl (s_iload_n rfl) ?_
          refine pr_go rfl (s_iload rfl) ?_
          refine pr_call rfl (s_invV rfl ho rfl rfl) (r_seesNow ho hc hn hn2 (p := p) (q := r) (by omega) (by omega)) ?_
          cases h39 : seesF f p r
          · skip
            refine pr_go rfl (s_if_eq_t (by decide)) ?_
            refine pr_go rfl (s_iinc1 rfl (lv' := [(4, .int (nI (r + 1))), (0, .ref o), (1, .int (nI p)), (2, .int (nI q)), (3, .int (nI best))]) (by rw [nI_1]; rfl)) ?_
            refine pr_go rfl s_goto ?_
            rw [show cStep f p q best r = best from by unfold cStep; simp only [h18, decide_eq_false h29, h39]; rfl]
            exact pr_less (lvLe_of rfl rfl (by repeat' (first | exact (fun _ h => absurd h List.not_mem_nil) | refine List.forall_mem_cons.mpr ⟨rfl, ?_⟩))) (ih (r + 1) best (by omega) (Or.inr hb))
          · skip
            refine pr_go rfl (s_if_eq_f (by decide)) ?_
            refine pr_go rfl (s_aload_n rfl) ?_
            refine pr_go rfl (s_iload_n rfl) ?_
            refine pr_go rfl (s_iload rfl) ?_
            refine pr_call rfl (s_invV rfl ho rfl rfl) (r_seesNow ho hc hn hn2 (p := q) (q := r) (by omega) (by omega)) ?_
            cases h49 : seesF f q r
            · skip
              refine pr_go rfl (s_if_ne_f (by decide)) ?_
              refine pr_go rfl s_goto ?_
              refine pr_go rfl (s_iinc1 rfl (lv' := [(4, .int (nI (r + 1))), (0, .ref o), (1, .int (nI p)), (2, .int (nI q)), (3, .int (nI best))]) (by rw [nI_1]; rfl)) ?_
              refine pr_go rfl s_goto ?_
              rw [show cStep f p q best r = best from by unfold cStep; simp only [h18, decide_eq_false h29, h39, h49]; rfl]
              exact pr_less (lvLe_of rfl rfl (by repeat' (first | exact (fun _ h => absurd h List.not_mem_nil) | refine List.forall_mem_cons.mpr ⟨rfl, ?_⟩))) (ih (r + 1) best (by omega) (Or.inr hb))
            · skip
              refine pr_go rfl (s_if_ne_t (by decide)) ?_
              refine pr_go rfl (s_iload_n rfl) ?_
              refine pr_go rfl s_iconst ?_
              refine pr_go rfl (s_icmp_eq_f (nI_none (by omega))) ?_
              refine pr_go rfl (s_aload_n rfl) ?_
              refine pr_go rfl (s_iload_n rfl) ?_
              refine pr_go rfl (s_iload_n rfl) ?_
              refine pr_go rfl (s_iload_n rfl) ?_
              refine pr_go rfl (s_iload rfl) ?_
              refine pr_call rfl (s_invV rfl ho rfl rfl) (r_isBetter ho hc hn hn2 (p := p) (q := q) (by omega) (by omega) (r := best) (s := r) (by omega) (by omega)) ?_
              cases h69 : betF f p q best r
              · skip
                refine pr_go rfl (s_if_eq_t (by decide)) ?_
                refine pr_go rfl (s_iinc1 rfl (lv' := [(4, .int (nI (r + 1))), (0, .ref o), (1, .int (nI p)), (2, .int (nI q)), (3, .int (nI best))]) (by rw [nI_1]; rfl)) ?_
                refine pr_go rfl s_goto ?_
                rw [show cStep f p q best r = best from by unfold cStep; simp only [h18, decide_eq_false h29, h39, h49, h69]; simp only [show Nat.beq best pNone = false from by rw [Bool.eq_false_iff]; intro e; have := pBeq e; unfold pNone at this; omega]; rfl]
                exact pr_less (lvLe_of rfl rfl (by repeat' (first | exact (fun _ h => absurd h List.not_mem_nil) | refine List.forall_mem_cons.mpr ⟨rfl, ?_⟩))) (ih (r + 1) best (by omega) (Or.inr hb))
              · skip
                refine pr_go rfl (s_if_eq_f (by decide)) ?_
                refine pr_go rfl (s_iload rfl) ?_
                refine pr_go rfl (s_istore_n (lv' := [(3, .int (nI r)), (0, .ref o), (1, .int (nI p)), (2, .int (nI q)), (4, .int (nI r))]) rfl) ?_
                refine pr_go rfl (s_iinc1 rfl (lv' := [(4, .int (nI (r + 1))), (3, .int (nI r)), (0, .ref o), (1, .int (nI p)), (2, .int (nI q))]) (by rw [nI_1]; rfl)) ?_
                refine pr_go rfl s_goto ?_
                rw [show cStep f p q best r = r from by unfold cStep; simp only [h18, decide_eq_false h29, h39, h49, h69]; simp only [show Nat.beq best pNone = false from by rw [Bool.eq_false_iff]; intro e; have := pBeq e; unfold pNone at this; omega]; rfl]
                exact pr_less (lvLe_of rfl rfl (by repeat' (first | exact (fun _ h => absurd h List.not_mem_nil) | refine List.forall_mem_cons.mpr ⟨rfl, ?_⟩))) (ih (r + 1) r (by omega) (Or.inr (by omega)))
theorem r_cornerFor {w : pW} {o c n : Nat} {f : Nat → Int32} {fs : List Value} (ho : w[o]? = some (.inr (9, .ref c :: fs))) (hc : w[c]? = some (.inl (0, n, .inl f))) (hn : 1780 ≤ n) (hn2 : n < 2 ^ 31) {p q : Nat} (hp : p < 40) (hq : q < 40) : pRun 215 [.ref o, .int (nI p), .int (nI q)] w (some (.int (nI (cornF f p q)))) w := by
  refine pr_run rfl ?_
  refine pr_blk 4 (q' := (5, [(4, .int (nI 0)), (3, .int (nI pNone)), (0, .ref o), (1, .int (nI p)), (2, .int (nI q))], [], w)) (by with_unfolding_all rfl) ?_
  exact pr_less (lvLe_of rfl rfl (by repeat' (first | exact (fun _ h => absurd h List.not_mem_nil) | refine List.forall_mem_cons.mpr ⟨rfl, ?_⟩))) (l_cornerFor ho hc hn hn2 hp hq 40 0 pNone rfl (Or.inl rfl))
