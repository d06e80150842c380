/-! THE CLASS TAKES PLACES, PUTS POINTS DOWN, FIXES EDGES. Rows laid by program (wip/tools/lay.py, mkc.py, mk78.py). -/
def sh1 (k : Nat) : Int64 := (1 : Int64) <<< ((nI k).toInt64 &&& 63)
theorem c_place {xs : Nat → Int32} {ys : Nat → Int32} {hs : Nat → Int32} {fx : Nat → Int64} {hx : Nat → Int32} {hy : Nat → Int32} {th : Int64} {hn : Int32} {g : Int32} {ap : Nat → Int32} {ow : Nat → Int32} {co : Nat → Int32} {en : Nat → Int32} {ne : Nat → Int64} {rd : Nat → Int32} {tn : Int32} {ec : Int32} {li : Nat → Int64} {wa : Nat → Int64} {qu : Nat → Int32} {qn : Int32} {Q : pW} {a : Nat} {x y : Int32} (ha : a < 40) : pRun 84 [.ref 2, .int (nI a), .int x, .int y] (cM xs ys hs fx hx hy th hn g ap ow co en ne rd tn ec li wa qu qn Q) none (cM (upd xs a x) (upd ys a y) hs fx hx hy (th ||| sh1 a) hn g ap ow co en ne rd tn ec li wa qu qn Q) := by
  refine pr_run rfl ?_
  refine pr_go rfl (s_aload_n rfl) ?_
  refine pr_go rfl (s_getf rfl rfl) ?_
  refine pr_go rfl (s_iload_n rfl) ?_
  refine pr_go rfl (s_iload_n rfl) ?_
  refine pr_go rfl (s_iastN rfl (by omega) (by decide) (w' := cM (upd xs (a) (x)) ys hs fx hx hy th hn g ap ow co en ne rd tn ec li wa qu qn Q) rfl) ?_
  refine pr_go rfl (s_aload_n rfl) ?_
  refine pr_go rfl (s_getf rfl rfl) ?_
  refine pr_go rfl (s_iload_n rfl) ?_
  refine pr_go rfl (s_iload_n rfl) ?_
  refine pr_go rfl (s_iastN rfl (by omega) (by decide) (w' := cM (upd xs (a) (x)) (upd ys (a) (y)) hs fx hx hy th hn g ap ow co en ne rd tn ec li wa qu qn Q) rfl) ?_
  refine pr_go rfl (s_aload_n rfl) ?_
  refine pr_go rfl (s_dup rfl) ?_
  refine pr_go rfl (s_getf rfl rfl) ?_
  refine pr_go rfl s_lconst1 ?_
  refine pr_go rfl (s_iload_n rfl) ?_
  refine pr_go rfl s_lshl ?_
  refine pr_go rfl s_lor ?_
  refine pr_go rfl (s_putfN rfl (Nat.le_of_ble_eq_true rfl) rfl (w' := cM (upd xs (a) (x)) (upd ys (a) (y)) hs fx hx hy ((th) ||| ((1) <<< ((nI a).toInt64 &&& 63))) hn g ap ow co en ne rd tn ec li wa qu qn Q) rfl) ?_
  exact pr_ret rfl rfl
def bdF (fx : Nat → Int64) (a b : Nat) : Nat → Int64 := vp_updL (vp_updL fx a (fx a ||| sh1 b)) b (vp_updL fx a (fx a ||| sh1 b) b ||| sh1 a)
theorem c_bind {xs : Nat → Int32} {ys : Nat → Int32} {hs : Nat → Int32} {fx : Nat → Int64} {hx : Nat → Int32} {hy : Nat → Int32} {th : Int64} {hn : Int32} {g : Int32} {ap : Nat → Int32} {ow : Nat → Int32} {co : Nat → Int32} {en : Nat → Int32} {ne : Nat → Int64} {rd : Nat → Int32} {tn : Int32} {ec : Int32} {li : Nat → Int64} {wa : Nat → Int64} {qu : Nat → Int32} {qn : Int32} {Q : pW} {a b : Nat} (ha : a < 40) (hb : b < 40) : pRun 92 [.ref 2, .int (nI a), .int (nI b)] (cM xs ys hs fx hx hy th hn g ap ow co en ne rd tn ec li wa qu qn Q) none (cM xs ys hs (bdF fx a b) hx hy th hn g ap ow co en ne rd tn ec li wa qu qn Q) := by
  refine pr_run rfl ?_
  refine pr_go rfl (s_aload_n rfl) ?_
  refine pr_go rfl (s_getf rfl rfl) ?_
  refine pr_go rfl (s_iload_n rfl) ?_
  refine pr_go rfl s_dup2i ?_
  refine pr_go rfl (s_laldN (v := fx (a)) rfl (by omega) (by decide) rfl) ?_
  refine pr_go rfl s_lconst1 ?_
  refine pr_go rfl (s_iload_n rfl) ?_
  refine pr_go rfl s_lshl ?_
  refine pr_go rfl s_lor ?_
  refine pr_go rfl (s_lastN rfl (by omega) (by decide) (w' := cM xs ys hs (vp_updL fx (a) ((fx (a)) ||| ((1) <<< ((nI b).toInt64 &&& 63)))) hx hy th hn g ap ow co en ne rd tn ec li wa qu qn Q) rfl) ?_
  refine pr_go rfl (s_aload_n rfl) ?_
  refine pr_go rfl (s_getf rfl rfl) ?_
  refine pr_go rfl (s_iload_n rfl) ?_
  refine pr_go rfl s_dup2i ?_
  refine pr_go rfl (s_laldN (v := (vp_updL fx (a) ((fx (a)) ||| ((1) <<< ((nI b).toInt64 &&& 63)))) (b)) rfl (by omega) (by decide) rfl) ?_
  refine pr_go rfl s_lconst1 ?_
  refine pr_go rfl (s_iload_n rfl) ?_
  refine pr_go rfl s_lshl ?_
  refine pr_go rfl s_lor ?_
  refine pr_go rfl (s_lastN rfl (by omega) (by decide) (w' := cM xs ys hs (vp_updL (vp_updL fx (a) ((fx (a)) ||| ((1) <<< ((nI b).toInt64 &&& 63)))) (b) (((vp_updL fx (a) ((fx (a)) ||| ((1) <<< ((nI b).toInt64 &&& 63)))) (b)) ||| ((1) <<< ((nI a).toInt64 &&& 63)))) hx hy th hn g ap ow co en ne rd tn ec li wa qu qn Q) rfl) ?_
  exact pr_ret rfl rfl
def sqB (x y : Int32) : Bool := !(decide (x < nI 4294966296)) && (!(decide (nI 1000 < x)) && (!(decide (y < nI 4294966296)) && !(decide (nI 1000 < y))))
theorem c_inSquare {xs : Nat → Int32} {ys : Nat → Int32} {hs : Nat → Int32} {fx : Nat → Int64} {hx : Nat → Int32} {hy : Nat → Int32} {th : Int64} {hn : Int32} {g : Int32} {ap : Nat → Int32} {ow : Nat → Int32} {co : Nat → Int32} {en : Nat → Int32} {ne : Nat → Int64} {rd : Nat → Int32} {tn : Int32} {ec : Int32} {li : Nat → Int64} {wa : Nat → Int64} {qu : Nat → Int32} {qn : Int32} {Q : pW} {x y : Int32} : pRun 182 [.int x, .int y] (cM xs ys hs fx hx hy th hn g ap ow co en ne rd tn ec li wa qu qn Q) (some (.int (bI (sqB x y)))) (cM xs ys hs fx hx hy th hn g ap ow co en ne rd tn ec li wa qu qn Q) := by
  refine pr_run rfl ?_
  refine pr_go rfl (s_iload_n rfl) ?_
  refine pr_go rfl s_sipush ?_
  by_cases h4 : x < nI 4294966296
  · skip
    refine pr_go rfl (s_icmp_lt_t h4) ?_
    refine pr_go rfl s_iconst ?_
    exact pr_retE (r' := some (.int (nI 0))) rfl s_ret0 (by unfold sqB bI; simp only [decide_eq_true h4]; rfl)
  · skip
    refine pr_go rfl (s_icmp_lt_f h4) ?_
    refine pr_go rfl (s_iload_n rfl) ?_
    refine pr_go rfl s_sipush ?_
    by_cases h11 : nI 1000 < x
    · skip
      refine pr_go rfl (s_icmp_gt_t h11) ?_
      refine pr_go rfl s_iconst ?_
      exact pr_retE (r' := some (.int (nI 0))) rfl s_ret0 (by unfold sqB bI; simp only [decide_eq_false h4, decide_eq_true h11]; rfl)
    · skip
      refine pr_go rfl (s_icmp_gt_f h11) ?_
      refine pr_go rfl (s_iload_n rfl) ?_
      refine pr_go rfl s_sipush ?_
      by_cases h18 : y < nI 4294966296
      · skip
        refine pr_go rfl (s_icmp_lt_t h18) ?_
        refine pr_go rfl s_iconst ?_
        exact pr_retE (r' := some (.int (nI 0))) rfl s_ret0 (by unfold sqB bI; simp only [decide_eq_false h4, decide_eq_false h11, decide_eq_true h18]; rfl)
      · skip
        refine pr_go rfl (s_icmp_lt_f h18) ?_
        refine pr_go rfl (s_iload_n rfl) ?_
        refine pr_go rfl s_sipush ?_
        by_cases h25 : nI 1000 < y
        · skip
          refine pr_go rfl (s_icmp_gt_t h25) ?_
          refine pr_go rfl s_iconst ?_
          exact pr_retE (r' := some (.int (nI 0))) rfl s_ret0 (by unfold sqB bI; simp only [decide_eq_false h4, decide_eq_false h11, decide_eq_false h18, decide_eq_true h25]; rfl)
        · skip
          refine pr_go rfl (s_icmp_gt_f h25) ?_
          refine pr_go rfl s_iconst ?_
          refine pr_go rfl s_goto ?_
          exact pr_retE (r' := some (.int (nI 1))) rfl s_ret1 (by unfold sqB bI; simp only [decide_eq_false h4, decide_eq_false h11, decide_eq_false h18, decide_eq_false h25]; rfl)
