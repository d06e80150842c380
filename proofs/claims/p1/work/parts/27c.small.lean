theorem r_areApart {w : pW} {v u : Int32} : pRun 205 [.int v, .int u] w (some (.int (bI (apB v u)))) w := by
  refine pr_run rfl ?_
  refine pr_blk 1 (q' := (1, [(0, .int v), (1, .int u)], [.int v], w)) (by with_unfolding_all rfl) ?_
  by_cases h1 : v ≤ 0
  · skip
    refine pr_go rfl (s_if_le_t h1) ?_
    refine pr_blk 1 (q' := (9, [(0, .int v), (1, .int u)], [.int v], w)) (by with_unfolding_all rfl) ?_
    by_cases h9 : 0 ≤ v
    · skip
      refine pr_go rfl (s_if_ge_t h9) ?_
      refine pr_blk 1 (q' := (21, [(0, .int v), (1, .int u)], [.int (nI 0)], w)) (by with_unfolding_all rfl) ?_
      exact pr_retE (r' := some (.int (nI 0))) rfl s_ret0 (by unfold apB bI; simp only [decide_eq_true h1, decide_eq_true h9]; rfl)
    · skip
      refine pr_go rfl (s_if_ge_f h9) ?_
      refine pr_blk 1 (q' := (13, [(0, .int v), (1, .int u)], [.int u], w)) (by with_unfolding_all rfl) ?_
      by_cases h13 : u ≤ 0
      · skip
        refine pr_go rfl (s_if_le_t h13) ?_
        refine pr_blk 1 (q' := (21, [(0, .int v), (1, .int u)], [.int (nI 0)], w)) (by with_unfolding_all rfl) ?_
        exact pr_retE (r' := some (.int (nI 0))) rfl s_ret0 (by unfold apB bI; simp only [decide_eq_true h1, decide_eq_false h9, decide_eq_true h13]; rfl)
      · skip
        refine pr_go rfl (s_if_le_f h13) ?_
        refine pr_blk 2 (q' := (21, [(0, .int v), (1, .int u)], [.int (nI 1)], w)) (by with_unfolding_all rfl) ?_
        exact pr_retE (r' := some (.int (nI 1))) rfl s_ret1 (by unfold apB bI; simp only [decide_eq_true h1, decide_eq_false h9, decide_eq_false h13]; rfl)
  · skip
    refine pr_go rfl (s_if_le_f h1) ?_
    refine pr_blk 1 (q' := (5, [(0, .int v), (1, .int u)], [.int u], w)) (by with_unfolding_all rfl) ?_
    by_cases h5 : u < 0
    · skip
      refine pr_go rfl (s_if_lt_t h5) ?_
      refine pr_blk 2 (q' := (21, [(0, .int v), (1, .int u)], [.int (nI 1)], w)) (by with_unfolding_all rfl) ?_
      exact pr_retE (r' := some (.int (nI 1))) rfl s_ret1 (by unfold apB bI; simp only [decide_eq_false h1, decide_eq_true h5]; rfl)
    · skip
      refine pr_go rfl (s_if_lt_f h5) ?_
      refine pr_blk 1 (q' := (9, [(0, .int v), (1, .int u)], [.int v], w)) (by with_unfolding_all rfl) ?_
      by_cases h9 : 0 ≤ v
      · skip
        refine pr_go rfl (s_if_ge_t h9) ?_
        refine pr_blk 1 (q' := (21, [(0, .int v), (1, .int u)], [.int (nI 0)], w)) (by with_unfolding_all rfl) ?_
        exact pr_retE (r' := some (.int (nI 0))) rfl s_ret0 (by unfold apB bI; simp only [decide_eq_false h1, decide_eq_false h5, decide_eq_true h9]; rfl)
      · skip
        refine pr_go rfl (s_if_ge_f h9) ?_
        refine pr_blk 1 (q' := (13, [(0, .int v), (1, .int u)], [.int u], w)) (by with_unfolding_all rfl) ?_
        by_cases h13 : u ≤ 0
        · skip
          refine pr_go rfl (s_if_le_t h13) ?_
          refine pr_blk 1 (q' := (21, [(0, .int v), (1, .int u)], [.int (nI 0)], w)) (by with_unfolding_all rfl) ?_
          exact pr_retE (r' := some (.int (nI 0))) rfl s_ret0 (by unfold apB bI; simp only [decide_eq_false h1, decide_eq_false h5, decide_eq_false h9, decide_eq_true h13]; rfl)
        · skip
          refine pr_go rfl (s_if_le_f h13) ?_
          refine pr_blk 2 (q' := (21, [(0, .int v), (1, .int u)], [.int (nI 1)], w)) (by with_unfolding_all rfl) ?_
          exact pr_retE (r' := some (.int (nI 1))) rfl s_ret1 (by unfold apB bI; simp only [decide_eq_false h1, decide_eq_false h5, decide_eq_false h9, decide_eq_false h13]; rfl)
theorem r_isBorder {w : pW} {o c n : Nat} {f : Nat → Int32} {fs : List Value} (ho : w[o]? = some (.inr (9, .ref c :: fs))) (hc : w[c]? = some (.inl (0, n, .inl f))) (hn : 1780 ≤ n) (hn2 : n < 2 ^ 31) {p q : Nat} (hp : p < 40) (hq : q < 40) : pRun 217 [.ref o, .int (nI p), .int (nI q)] w (some (.int (bI (decide (fxF f p q = nI 2))))) w := by
  refine pr_run rfl ?_
  refine pr_blk 3 (q' := (3, [(0, .ref o), (1, .int (nI p)), (2, .int (nI q))], [.int (nI q), .int (nI p), .ref o], w)) (by with_unfolding_all rfl) ?_
  refine pr_call rfl (s_invV rfl ho rfl rfl) (r_fixedAt ho hc hn hn2 (p := p) (q := q) (by omega) (by omega)) ?_
  refine pr_blk 1 (q' := (7, [(0, .ref o), (1, .int (nI p)), (2, .int (nI q))], [.int (nI 2), .int (fxF f p q)], w)) (by with_unfolding_all rfl) ?_
  by_cases h1 : fxF f p q = nI 2
  · skip
    refine pr_go rfl (s_icmp_ne_f (fun e => e h1)) ?_
    refine pr_blk 2 (q' := (15, [(0, .ref o), (1, .int (nI p)), (2, .int (nI q))], [.int (nI 1)], w)) (by with_unfolding_all rfl) ?_
    exact pr_retE (r' := some (.int (nI 1))) rfl s_ret1 (by unfold bI; rw [decide_eq_true h1]; rfl)
  · skip
    refine pr_go rfl (s_icmp_ne_t h1) ?_
    refine pr_blk 1 (q' := (15, [(0, .ref o), (1, .int (nI p)), (2, .int (nI q))], [.int (nI 0)], w)) (by with_unfolding_all rfl) ?_
    exact pr_retE (r' := some (.int (nI 0))) rfl s_ret0 (by unfold bI; rw [decide_eq_false h1]; rfl)
theorem r_isInward {w : pW} {o c n : Nat} {f : Nat → Int32} {fs : List Value} (ho : w[o]? = some (.inr (9, .ref c :: fs))) (hc : w[c]? = some (.inl (0, n, .inl f))) (hn : 1780 ≤ n) (hn2 : n < 2 ^ 31) {p q : Nat} (hp : p < 40) (hq : q < 40) : pRun 218 [.ref o, .int (nI p), .int (nI q)] w (some (.int (bI (decide (fxF f p q = nI 2) && !(decide (sideF f p q (nI 0) (nI 0) ≤ 0)))))) w := by
  refine pr_run rfl ?_
  refine pr_blk 3 (q' := (3, [(0, .ref o), (1, .int (nI p)), (2, .int (nI q))], [.int (nI q), .int (nI p), .ref o], w)) (by with_unfolding_all rfl) ?_
  refine pr_call rfl (s_invV rfl ho rfl rfl) (r_isBorder ho hc hn hn2 (p := p) (q := q) (by omega) (by omega)) ?_
  cases h6 : decide (fxF f p q = nI 2)
  · skip
    refine pr_go rfl (s_if_eq_t (by decide)) ?_
    refine pr_blk 1 (q' := (25, [(0, .ref o), (1, .int (nI p)), (2, .int (nI q))], [.int (nI 0)], w)) (by with_unfolding_all rfl) ?_
    exact pr_retE (r' := some (.int (nI 0))) rfl s_ret0 (by unfold bI; rfl)
  · skip
    refine pr_go rfl (s_if_eq_f (by decide)) ?_
    refine pr_blk 5 (q' := (14, [(0, .ref o), (1, .int (nI p)), (2, .int (nI q))], [.int (nI 0), .int (nI 0), .int (nI q), .int (nI p), .ref o], w)) (by with_unfolding_all rfl) ?_
    refine pr_call rfl (s_invV rfl ho rfl rfl) (r_sideOf ho hc hn hn2 (p := p) (q := q) (by omega) (by omega) (x := nI 0) (y := nI 0)) ?_
    by_cases h17 : sideF f p q (nI 0) (nI 0) ≤ 0
    · skip
      refine pr_go rfl (s_if_le_t h17) ?_
      refine pr_blk 1 (q' := (25, [(0, .ref o), (1, .int (nI p)), (2, .int (nI q))], [.int (nI 0)], w)) (by with_unfolding_all rfl) ?_
      exact pr_retE (r' := some (.int (nI 0))) rfl s_ret0 (by unfold bI; rw [decide_eq_true h17]; rfl)
    · skip
      refine pr_go rfl (s_if_le_f h17) ?_
      refine pr_blk 2 (q' := (25, [(0, .ref o), (1, .int (nI p)), (2, .int (nI q))], [.int (nI 1)], w)) (by with_unfolding_all rfl) ?_
      exact pr_retE (r' := some (.int (nI 1))) rfl s_ret1 (by unfold bI; rw [decide_eq_false h17]; rfl)
